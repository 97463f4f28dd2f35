def WX (mu m : Nat → Nat → Int32) : Prop := ∀ k, ¬ (11 ≤ k ∧ k < 104 ∧ 6 ≤ k % 8) → ¬ (104 ≤ k ∧ k ≤ 107) → m k = mu k
theorem WX.tr {a b c : Nat → Nat → Int32} (h : WX a b) (g : WX b c) : WX a c := fun k h1 h2 => (g k h1 h2).trans (h k h1 h2)
theorem WX.mf {a b : Nat → Nat → Int32} (h : MF 104 a b) : WX a b := fun k _ h2 => h k (by omega)
theorem WX.up {mu m : Nat → Nat → Int32} (h : WX mu m) {k : Nat} (hk : 11 ≤ k ∧ k < 104 ∧ 6 ≤ k % 8) (j : Nat) (v : Int32) : WX mu (up m k j v) := fun q h1 h2 => by
  rw [up_k (by intro e; subst e; exact h1 hk)]; exact h q h1 h2
theorem WX.cb {t : SG} {mu m : Nat → Nat → Int32} (h : WX mu m) (hw : WF t) (hb : CB t mu) : CB t m :=
  hb.of hw (h 0 (by omega) (by omega)) (fun k _ _ => h k (by omega) (by omega)) (fun j hj => ⟨h _ (by omega) (by omega), h _ (by omega) (by omega), h _ (by omega) (by omega)⟩)
def Rdy (t : SG) (i : Nat) (m : Nat → Nat → Int32) : Prop := Lst t i m ∧ m (11 + 8 * i) 5 = 1 ∧ Rea t i m
theorem Rdy.k {t : SG} {i : Nat} {mu m : Nat → Nat → Int32} (h : Rdy t i mu) (e1 : m (11 + 8 * i) = mu (11 + 8 * i)) (e2 : m (12 + 8 * i) = mu (12 + 8 * i)) (e3 : m (13 + 8 * i) = mu (13 + 8 * i)) : Rdy t i m := by
  refine ⟨h.1.k e1 e2, by rw [e1]; exact h.2.1, ?_⟩
  intro k hk
  rw [e3]; exact h.2.2 k hk
theorem WX.rdy {t : SG} {i : Nat} {mu m : Nat → Nat → Int32} (h : WX mu m) (h12 : i < 12) (hr : Rdy t i mu) : Rdy t i m := hr.k (h _ (by omega) (by omega)) (h _ (by omega) (by omega)) (h _ (by omega) (by omega))
theorem Wgd.k {t : SG} {i : Nat} {mu m : Nat → Nat → Int32} (h : Wgd t i mu) (e1 : m (14 + 8 * i) = mu (14 + 8 * i)) (e2 : m (15 + 8 * i) = mu (15 + 8 * i)) : Wgd t i m := by
  intro k hk
  rw [e1, e2]; exact h k hk
def WJ (t : SG) (mu : Nat → Nat → Int32) (i k : Nat) (m : Nat → Nat → Int32) : Prop := WX mu m ∧ (∀ q, i < q → q < sn t → Wgd t q m) ∧ ∀ c, c < k → m (14 + 8 * i) c = nI (WT t i c) ∧ m (15 + 8 * i) c = nI (QT t i c)
theorem WJ.put {t : SG} {mu m m2 : Nat → Nat → Int32} {i k : Nat} (hw : WF t) (hi : i < sn t) (h : WJ t mu i k m) (f : ∀ q, ¬ (104 ≤ q ∧ q ≤ 107) → ¬ q = 14 + 8 * i → ¬ q = 15 + 8 * i → m2 q = m q) (a : ∀ c, ¬ c = k → m2 (14 + 8 * i) c = m (14 + 8 * i) c ∧ m2 (15 + 8 * i) c = m (15 + 8 * i) c) (b : m2 (14 + 8 * i) k = nI (WT t i k)) (d : m2 (15 + 8 * i) k = nI (QT t i k)) : WJ t mu i (k + 1) m2 := by
  have hn := hw.n
  refine ⟨fun q h1 h2 => (f q h2 (by omega) (by omega)).trans (h.1 q h1 h2), fun q h1 h2 => (h.2.1 q h1 h2).k (f _ (by omega) (by omega) (by omega)) (f _ (by omega) (by omega) (by omega)), fun c hc => ?_⟩
  by_cases e : c = k
  · subst e; exact ⟨b, d⟩
  · rw [(a c e).1, (a c e).2]; exact h.2.2 c (by omega)
theorem QT_0 {t : SG} {i k : Nat} (h : WT t i k = 0) : QT t i k = 0 := by unfold QT; rw [if_pos h]
set_option maxHeartbeats 4000000 in
theorem wg10 {Post : MH → Prop} {t : SG} {mu : Nat → Nat → Int32} {l : Nat → Int64} (hb : CB t mu) (hw : WF t) (hr : ∀ q, q < sn t → Rdy t q mu) {i : Nat} (hi : i < sn t) {la : Int32} (hla : la = 0 ∨ la = 1) (hl1 : la = 0 ↔ i + 1 < sn t) (hp : ∀ m2, WJ t mu i (sz t i) m2 → Post (Hm m2 l)) : ∀ n k m, k + n = sz t i → WJ t mu i k m → wn_Se_weigh_10 Post (n + 1) 1 (nI i) la (11 + 8 * i) (nI k) (Hm m l) := by
  have hn := hw.n
  have h12 : i < 12 := by omega
  have hz := sz_112 hw hi
  have R0 := hr i hi
  intro n
  induction n with
  | zero =>
    intro k m hk hj
    have e11 : m (11 + 8 * i) = mu (11 + 8 * i) := hj.1 _ (by omega) (by omega)
    show wb_Se_weigh_10 _ _ _ _ _ _ _ _
    unfold wb_Se_weigh_10
    simp only [Option.some.injEq, Sum.inl.injEq, Sum.inr.injEq, Prod.mk.injEq, and_assoc, exists_eq_left', exists_eq_left, exists_and_left, exists_and_right, exists_eq', exists_eq, forall_eq, forall_eq', true_and, and_true, exists_const, Hm_1, gF_co_4 _ _ h12, e11, R0.1.1, nI_leI (show sz t i < 2 ^ 31 by omega) (show k < 2 ^ 31 by omega)]
    refine ⟨fun _ => hp m (by rw [show sz t i = k by omega]; exact hj), fun e => absurd (by omega) e⟩
  | succ n ih =>
    intro k m hk hj
    have e11 : m (11 + 8 * i) = mu (11 + 8 * i) := hj.1 _ (by omega) (by omega)
    have e13 : m (13 + 8 * i) k = bI (decide (0 < Rw t i k)) := by rw [hj.1 (13 + 8 * i) (by omega) (by omega)]; exact R0.2.2 k (by omega)
    have k3 : ∀ (X : Nat → Nat → Int32) (q : Nat) (v : Int32), up X (15 + 8 * i) q v (13 + 8 * i) k = X (13 + 8 * i) k := fun X q v => by rw [up_k (by omega)]
    have k4 : ∀ (X : Nat → Nat → Int32) (q : Nat) (v : Int32), up X (14 + 8 * i) q v (13 + 8 * i) k = X (13 + 8 * i) k := fun X q v => by rw [up_k (by omega)]
    have pt : ∀ w : Nat, WT t i k = w → QT t i k = 0 → WJ t mu i (k + 1) (up (up m (15 + 8 * i) k 0) (14 + 8 * i) k (nI w)) := by
      intro w e1 e2
      refine hj.put hw hi (fun q q1 q2 q3 => by rw [up_k q2, up_k q3]) (fun c hc => ⟨by rw [up_j hc, up_k (by omega)], by rw [up_k (by omega), up_j hc]⟩) (by rw [up_at, e1]) (by rw [up_k (by omega), up_at, e2]; rfl)
    show wb_Se_weigh_10 _ _ _ _ _ _ _ _
    unfold wb_Se_weigh_10 wp_Se_weigh_51 wp_Se_weigh_52 wp_Se_weigh_74
    simp only [Option.some.injEq, Sum.inl.injEq, Sum.inr.injEq, Prod.mk.injEq, and_assoc, exists_eq_left', exists_eq_left, exists_and_left, exists_and_right, exists_eq', exists_eq, forall_eq, forall_eq', true_and, and_true, exists_const, Hm_1, gF_co_4 _ _ h12, e11, R0.1.1, nI_leI (show sz t i < 2 ^ 31 by omega) (show k < 2 ^ 31 by omega), gF_co_3 _ _ h12, gF_co_2 _ _ h12, gF_co_1 _ _ h12, gA_rs _ _ h12, ms_rs _ _ h12, gA_wa _ _ h12, ms_wa _ _ h12, gA_re _ _ h12, k3, k4, e13, bI_0, vp_in_nI (show k < 112 by omega) (show 112 < 2 ^ 31 by decide), nI_clamp (show k < 2 ^ 31 by omega), gC_Se, nI_1]
    refine ⟨fun e => absurd e (by omega), fun _ => ⟨fun e0 => ⟨fun q => absurd e0 q, fun _ => ⟨fun e => ?_, fun e => ?_⟩⟩, fun e0 => ⟨fun e => ⟨fun _ => ?_, fun q => absurd q e0⟩, fun e => ⟨fun _ => ?_, fun q => absurd q e0⟩⟩⟩⟩
    · have hz : WT t i k = 0 := by unfold WT; rw [if_neg (by simpa using e)]
      exact ih (k + 1) _ (by omega) (pt 0 hz (QT_0 hz))
    · have hi1 := hl1.mp e0
      have hR : 0 < Rw t i k := by simp at e; omega
      have hx : WX mu (up (up m (15 + 8 * i) k 0) (14 + 8 * i) k 0) := (hj.1.up (by omega) _ _).up (by omega) _ _
      have hwn : Wgd t (i + 1) (up (up m (15 + 8 * i) k 0) (14 + 8 * i) k 0) := (hj.2.1 (i + 1) (by omega) hi1).k (by rw [up_k (by omega), up_k (by omega)]) (by rw [up_k (by omega), up_k (by omega)])
      refine sp_Se_weighOne (hx.cb hw hb) hw hi1 (by omega) hR (hx.rdy h12 R0).1 (hx.rdy (by omega) (hr (i + 1) hi1)).1 hwn (fun m2 f2 => ?_)
      have g2 : ∀ q, ¬ (104 ≤ q ∧ q ≤ 107) → m2 q = up (up m (15 + 8 * i) k 0) (14 + 8 * i) k 0 q := fun q hq => f2 q (by omega)
      refine ih (k + 1) _ (by omega) (hj.put hw hi (fun q q1 q2 q3 => ?_) (fun c hc => ⟨?_, ?_⟩) ?_ ?_)
      · rw [up_k q3, up_k q2, g2 q q1, up_k q2, up_k q3]
      · rw [up_k (by omega), up_j hc, g2 _ (by omega), up_j hc, up_k (by omega)]
      · rw [up_j hc, up_k (by omega), g2 _ (by omega), up_k (by omega), up_j hc]
      · rw [up_k (by omega), up_at]
      · rw [up_at]
    · have hz : WT t i k = 0 := by unfold WT; rw [if_neg (by simpa using e)]
      exact ih (k + 1) _ (by omega) (pt 0 hz (QT_0 hz))
    · have hi1 : i + 1 = sn t := by
        have : ¬ (i + 1 < sn t) := fun z => e0 (hl1.mpr z)
        omega
      have hR : 0 < Rw t i k := by simp at e; omega
      have hz : WT t i k = 1 := by rw [WT_l hi1, if_pos hR]
      have hq : QT t i k = 0 := by unfold QT; rw [if_neg (by omega), RsT_l hi1]
      exact ih (k + 1) _ (by omega) (pt 1 hz hq)
theorem sp_Se_weigh {Post : MH → Prop} {t : SG} {mu : Nat → Nat → Int32} {l : Nat → Int64} (hb : CB t mu) (hw : WF t) (hr : ∀ q, q < sn t → Rdy t q mu) {i : Nat} (hi : i < sn t) {la : Int32} (hla : la = 0 ∨ la = 1) (hl1 : la = 0 ↔ i + 1 < sn t) (hg : ∀ q, i < q → q < sn t → Wgd t q mu) (hp : ∀ m2, WX mu m2 → (∀ q, i ≤ q → q < sn t → Wgd t q m2) → Post (Hm m2 l)) : wp_Se_weigh Post 1 (nI i) la (Hm mu l) := by
  have hn := hw.n
  have h12 : i < 12 := by omega
  unfold wp_Se_weigh
  simp only [Option.some.injEq, Sum.inl.injEq, Sum.inr.injEq, Prod.mk.injEq, and_assoc, exists_eq_left', exists_eq_left, exists_and_left, exists_and_right, exists_eq', exists_eq, forall_eq, forall_eq', true_and, and_true, exists_const, Hm_1, gF_Se_2, gR_CO, vp_in_nI h12 (show 12 < 2 ^ 31 by decide), nI_clamp (show i < 2 ^ 31 by omega), if_pos h12]
  refine ⟨_, wg10 hb hw hr hi hla hl1 (fun m2 h2 => hp m2 h2.1 (fun q q1 q2 => ?_)) (sz t i) 0 mu (by omega) ⟨fun _ _ _ => rfl, hg, fun c hc => absurd hc (Nat.not_lt_zero _)⟩⟩
  by_cases e : q = i
  · subst e; exact h2.2.2
  · exact h2.2.1 q (by omega) q2
def P1 (mu m : Nat → Nat → Int32) : Prop := (∀ k, ¬ k = 1 → ¬ k = 108 → m k = mu k) ∧ (∀ j, ¬ j = 6 → ¬ j = 7 → m 1 j = mu 1 j)
theorem P1.k {mu m : Nat → Nat → Int32} (h : P1 mu m) (k : Nat) (h1 : ¬ k = 1) (h2 : ¬ k = 108) : m k = mu k := h.1 k h1 h2
def PJ (t : SG) (mu : Nat → Nat → Int32) (k : Nat) (m : Nat → Nat → Int32) : Prop := P1 mu m ∧ m 1 7 = nI (cap (sumTo (WT t 0) k)) ∧ (¬ sumTo (WT t 0) k = 0 → m 1 6 = nI (bst (b0 t) k).1 ∧ m 108 0 = nI (pkv (vv t 0 (bst (b0 t) k).2)))
theorem bst0 {t : SG} (hw : WF t) (h0 : 0 < sn t) : ∀ k, k ≤ sz t 0 → sumTo (WT t 0) k = 0 → bst (b0 t) k = (FARN, 0)
  | 0, _, _ => rfl
  | k + 1, hk, e => by
    rw [sumTo_s] at e
    rw [bst_s, bst0 hw h0 k (by omega) (by omega), (b0_w hw h0 (k := k) (by omega)).1 (by omega)]
    rfl
set_option maxHeartbeats 4000000 in
theorem pf9 {Post : MH → Prop} {t : SG} {mu : Nat → Nat → Int32} {l : Nat → Int64} (hb : CB t mu) (hw : WF t) (h0 : 0 < sn t) (hr : Lst t 0 mu) (hg : Wgd t 0 mu) (hp : ∀ m2, PJ t mu (sz t 0) m2 → Post (Hm m2 l)) : ∀ n k m, k + n = sz t 0 → PJ t mu k m → wn_Se_pickFirst_9 Post (n + 1) 1 11 (nI k) (Hm m l) := by
  have hz := sz_112 hw h0
  have h12 : (0 : Nat) < 12 := by decide
  have A4 : ∀ m : Nat → Nat → Int32, gF (Hm m l) 11 1 4 = some (.inl (m 11 4)) := fun m => gF_co_4 m l (i := 0) h12
  have A0 : ∀ m : Nat → Nat → Int32, gF (Hm m l) 11 1 0 = some (.inr (some 12)) := fun m => gF_co_0 m l (i := 0) h12
  have A2 : ∀ m : Nat → Nat → Int32, gF (Hm m l) 11 1 2 = some (.inr (some 14)) := fun m => gF_co_2 m l (i := 0) h12
  have A3 : ∀ m : Nat → Nat → Int32, gF (Hm m l) 11 1 3 = some (.inr (some 15)) := fun m => gF_co_3 m l (i := 0) h12
  have B2 : ∀ m : Nat → Nat → Int32, gA (Hm m l) 12 0 = some (112, m 12) := fun m => gA_vo m l (i := 0) h12
  have B4 : ∀ m : Nat → Nat → Int32, gA (Hm m l) 14 0 = some (112, m 14) := fun m => gA_wa m l (i := 0) h12
  have B5 : ∀ m : Nat → Nat → Int32, gA (Hm m l) 15 0 = some (112, m 15) := fun m => gA_rs m l (i := 0) h12
  have hr1 : mu 11 4 = nI (sz t 0) := hr.1
  intro n
  induction n with
  | zero =>
    intro k m hk hj
    have e11 : m 11 = mu 11 := hj.1.k 11 (by decide) (by decide)
    show wb_Se_pickFirst_9 _ _ _ _ _ _
    unfold wb_Se_pickFirst_9
    simp only [Option.some.injEq, Sum.inl.injEq, Sum.inr.injEq, Prod.mk.injEq, and_assoc, exists_eq_left', exists_eq_left, exists_and_left, exists_and_right, exists_eq', exists_eq, forall_eq, forall_eq', true_and, and_true, exists_const, Hm_1, A4, e11, hr1, nI_leI (show sz t 0 < 2 ^ 31 by omega) (show k < 2 ^ 31 by omega)]
    refine ⟨fun _ => hp m (by rw [show sz t 0 = k by omega]; exact hj), fun e => absurd (by omega) e⟩
  | succ n ih =>
    intro k m hk hj
    have e11 : m 11 = mu 11 := hj.1.k 11 (by decide) (by decide)
    have e12 : m 12 = mu 12 := hj.1.k 12 (by decide) (by decide)
    have e14 : m 14 = mu 14 := hj.1.k 14 (by decide) (by decide)
    have e15 : m 15 = mu 15 := hj.1.k 15 (by decide) (by decide)
    have g4 : mu 14 k = nI (WT t 0 k) := (hg k (by omega)).1
    have g5 : mu 15 k = nI (QT t 0 k) := (hg k (by omega)).2
    have g2 : mu 12 k = nI (pkv (vv t 0 k)) := hr.2 k (by omega)
    have wl := WT_le t 0 k
    have BW := b0_w hw h0 (k := k) (by omega)
    have cl := cap_le (sumTo (WT t 0) k)
    have c0 := cap_0 (sumTo (WT t 0) k)
    have hbm : CB t m := hb.of hw (hj.1.k 0 (by decide) (by decide)) (fun q _ _ => hj.1.k q (by omega) (by omega)) (fun q hq => ⟨hj.1.k _ (by omega) (by omega), hj.1.k _ (by omega) (by omega), hj.1.k _ (by omega) (by omega)⟩)
    have tot : cap (cap (sumTo (WT t 0) k) + WT t 0 k) = cap (sumTo (WT t 0) (k + 1)) := by
      rw [sumTo_s]; exact cap_add (cap_cap _) rfl
    have bl := bst_le (b0 t) k
    -- what follows when the pick is made
    have fin : ∀ m2, P1 mu m2 → m2 1 7 = nI (cap (sumTo (WT t 0) k)) → ¬ WT t 0 k = 0 → m2 1 6 = nI (bst (b0 t) (k + 1)).1 → m2 108 0 = nI (pkv (vv t 0 (bst (b0 t) (k + 1)).2)) → wp_Se_pickFirst_82 (wn_Se_pickFirst_9 Post (n + 1)) Post 1 11 (nI k) (Hm m2 l) := by
      intro m2 p2 q7 nz q6 q8
      have f14 : m2 14 = mu 14 := p2.k 14 (by decide) (by decide)
      unfold wp_Se_pickFirst_82 wp_Se_pickFirst_99
      simp only [Option.some.injEq, Sum.inl.injEq, Sum.inr.injEq, Prod.mk.injEq, and_assoc, exists_eq_left', exists_eq_left, exists_and_left, exists_and_right, exists_eq', exists_eq, forall_eq, forall_eq', true_and, and_true, exists_const, Hm_1, gF_Se_7, fs_Se_7, q7, A2, B4, vp_in_nI (show k < 112 by omega) (show 112 < 2 ^ 31 by decide), nI_clamp (show k < 2 ^ 31 by omega), f14, g4, sp_Se_joined _ cl wl, tot, nI_1]
      refine ih (k + 1) _ (by omega) ⟨⟨fun q h1 h2 => by rw [up_k h1]; exact p2.1 q h1 h2, fun j h1 h2 => by rw [up_j h2]; exact p2.2 j h1 h2⟩, by rw [up_at], fun _ => ⟨by rw [up_j (by decide)]; exact q6, by rw [up_k (by decide)]; exact q8⟩⟩
    show wb_Se_pickFirst_9 _ _ _ _ _ _
    unfold wb_Se_pickFirst_9 wp_Se_pickFirst_99
    simp only [Option.some.injEq, Sum.inl.injEq, Sum.inr.injEq, Prod.mk.injEq, and_assoc, exists_eq_left', exists_eq_left, exists_and_left, exists_and_right, exists_eq', exists_eq, forall_eq, forall_eq', true_and, and_true, exists_const, Hm_1, A4, A0, A2, e11, hr1, nI_leI (show sz t 0 < 2 ^ 31 by omega) (show k < 2 ^ 31 by omega), B2, B4, vp_in_nI (show k < 112 by omega) (show 112 < 2 ^ 31 by decide), nI_clamp (show k < 2 ^ 31 by omega), e12, e14, g4, g2, n_eq0 (show WT t 0 k < 2 ^ 31 by omega), gF_Se_1, gC_Ru, nI_1]
    refine ⟨fun e => absurd e (by omega), fun _ => ⟨fun e => ?_, fun e => ?_⟩⟩
    · refine sp_Ru_farFromHome hbm.1 hw (Vx_v hw h0 (show k < sz t 0 by omega)).1 ?_
      have b := BW.2 e
      have eQ : QT t 0 k = RsT t 0 k := by unfold QT; rw [if_neg e]
      simp only [Option.some.injEq, Sum.inl.injEq, Sum.inr.injEq, Prod.mk.injEq, and_assoc, exists_eq_left', exists_eq_left, exists_and_left, exists_and_right, exists_eq', exists_eq, forall_eq, forall_eq', true_and, and_true, exists_const, Hm_1, A3, B5, vp_in_nI (show k < 112 by omega) (show 112 < 2 ^ 31 by decide), nI_clamp (show k < 2 ^ 31 by omega), e15, g5, eQ, nI_add, ← b.1, gF_Se_7, gF_Se_6, hj.2.1, n_eq0 (show cap (sumTo (WT t 0) k) < 2 ^ 31 by omega), c0]
      have take : bst (b0 t) (k + 1) = (b0 t k, k) → wp_Se_pickFirst_65 (wn_Se_pickFirst_9 Post (n + 1)) Post 1 11 (nI k) (nI (b0 t k)) (Hm m l) := by
        intro eb
        have k12 : ∀ (X : Nat → Nat → Int32) (q : Nat) (v : Int32), up X 1 q v 12 = X 12 := fun X q v => up_k (by decide)
        unfold wp_Se_pickFirst_65
        simp only [Option.some.injEq, Sum.inl.injEq, Sum.inr.injEq, Prod.mk.injEq, and_assoc, exists_eq_left', exists_eq_left, exists_and_left, exists_and_right, exists_eq', exists_eq, forall_eq, forall_eq', true_and, and_true, exists_const, Hm_1, gF_Se_6, fs_Se_6, gF_Se_4, A0, B2, gA_be, ms_be, vp_in_nI (show k < 112 by omega) (show 112 < 2 ^ 31 by decide), nI_clamp (show k < 2 ^ 31 by omega), show vp_in 0 12 from (by unfold vp_in; decide), show ((0 : Int32)).toNatClampNeg = 0 from rfl, k12, e12, g2]
        refine fin _ ⟨fun q h1 h2 => by rw [up_k h2, up_k h1]; exact hj.1.1 q h1 h2, fun j h1 h2 => by rw [up_k (by decide), up_j h1]; exact hj.1.2 j h1 h2⟩ (by rw [up_k (by decide), up_j (by decide)]; exact hj.2.1) e (by rw [up_k (by decide), up_at, eb]) (by rw [up_at, eb])
      refine ⟨fun z => take ?_, fun z => ?_⟩
      · rw [bst_s, bst0 hw h0 k (by omega) z, if_pos (by show b0 t k < FARN; unfold FARN; omega)]
      · have h6 := (hj.2.2 z).1
        rw [h6, nI_leI (show (bst (b0 t) k).1 < 2 ^ 31 by omega) (show b0 t k < 2 ^ 31 by omega)]
        refine ⟨fun c => fin m hj.1 hj.2.1 e ?_ ?_, fun c => take (by rw [bst_s, if_pos (by omega)])⟩
        · rw [bst_s, if_neg (by omega)]; exact h6
        · rw [bst_s, if_neg (by omega)]; exact (hj.2.2 z).2
    · have eb : bst (b0 t) (k + 1) = bst (b0 t) k := by
        rw [bst_s, if_neg]
        rw [BW.1 e]; unfold FARN; omega
      have es : sumTo (WT t 0) (k + 1) = sumTo (WT t 0) k := by rw [sumTo_s, e, Nat.add_zero]
      exact ih (k + 1) m (by omega) ⟨hj.1, by rw [es]; exact hj.2.1, by rw [es, eb]; exact hj.2.2⟩
theorem sp_Se_pickFirst {Post : MH → Prop} {t : SG} {mu : Nat → Nat → Int32} {l : Nat → Int64} (hb : CB t mu) (hw : WF t) (h0 : 0 < sn t) (hr : Lst t 0 mu) (hg : Wgd t 0 mu) (h7 : mu 1 7 = 0) (hp : ∀ m2, PJ t mu (sz t 0) m2 → Post (Hm m2 l)) : wp_Se_pickFirst Post 1 (Hm mu l) := by
  unfold wp_Se_pickFirst
  simp only [Option.some.injEq, Sum.inl.injEq, Sum.inr.injEq, Prod.mk.injEq, and_assoc, exists_eq_left', exists_eq_left, exists_and_left, exists_and_right, exists_eq', exists_eq, forall_eq, forall_eq', true_and, and_true, exists_const, Hm_1, gF_Se_2, gR_CO, show vp_in 0 12 from (by unfold vp_in; decide), show ((0 : Int32)).toNatClampNeg = 0 from rfl, if_pos (show 0 < 12 by decide)]
  exact ⟨_, pf9 hb hw h0 hr hg hp (sz t 0) 0 mu (by omega) ⟨⟨fun _ _ _ => rfl, fun _ _ _ => rfl⟩, h7, fun e => absurd rfl e⟩⟩
