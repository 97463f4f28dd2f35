def Col (t : SG) (i : Nat) (m : Nat → Nat → Int32) : Prop := m (11 + 8 * i) 5 = 0 ∨ (m (11 + 8 * i) 5 = 1 ∧ Lst t i m)
theorem Lst.k {t : SG} {i : Nat} {mu m : Nat → Nat → Int32} (h : Lst t i mu) (e1 : m (11 + 8 * i) = mu (11 + 8 * i)) (e2 : m (12 + 8 * i) = mu (12 + 8 * i)) : Lst t i m := by
  unfold Lst at *
  rw [e1, e2]; exact h
theorem Col.k {t : SG} {i : Nat} {mu m : Nat → Nat → Int32} (h : Col t i mu) (e1 : m (11 + 8 * i) = mu (11 + 8 * i)) (e2 : m (12 + 8 * i) = mu (12 + 8 * i)) : Col t i m := by
  rcases h with h | h
  · exact Or.inl (by rw [e1]; exact h)
  · exact Or.inr ⟨by rw [e1]; exact h.1, h.2.k e1 e2⟩
theorem Vx_v {t : SG} (hw : WF t) {i k : Nat} (hi : i < sn t) (hk : k < sz t i) : Vx t i (vv t i k) := ⟨fun v hv => vv_rg hw hi hk v (by omega), rfl⟩
theorem sp_Se_listed {Post : Nat → MH → Prop} {t : SG} {mu : Nat → Nat → Int32} {l : Nat → Int64} (hb : CB t mu) (hw : WF t) {i : Nat} (hi : i < sn t) (hc : Col t i mu) (hp : ∀ m2, Fc i mu m2 → Lst t i m2 → m2 (11 + 8 * i) 5 = 1 → Post (11 + 8 * i) (Hm m2 l)) : wp_Se_listed Post 1 (nI i) (Hm mu l) := by
  have h12 : i < 12 := by have := hw.n; omega
  unfold wp_Se_listed wp_Se_listed_31
  simp only [Option.some.injEq, Sum.inl.injEq, Sum.inr.injEq, Prod.mk.injEq, and_assoc, exists_eq_left', exists_eq_left, exists_and_left, exists_and_right, exists_eq', exists_eq, forall_eq, forall_eq', true_and, and_true, exists_const, Hm_1, gF_Se_2, gF_Se_0, gF_Se_1, gR_CO, gR_CA, vp_in_nI h12 (show 12 < 2 ^ 31 by decide), nI_clamp (show i < 2 ^ 31 by omega), if_pos h12, gF_co_5 _ _ h12, gC_co _ _ h12]
  refine ⟨fun e => ?_, fun e => sp_Co_list hb hw hi (fun m2 f2 l2 g2 => ?_)⟩
  · rcases hc with hc | hc
    · exact absurd hc e
    · exact hp mu (fun _ _ _ => rfl) hc.2 hc.1
  · simp only [Option.some.injEq, Sum.inl.injEq, Sum.inr.injEq, Prod.mk.injEq, and_assoc, exists_eq_left', exists_eq_left, exists_and_left, exists_and_right, exists_eq', exists_eq, forall_eq, forall_eq', true_and, and_true, exists_const, Hm_1, gF_Se_2, gR_CO, vp_in_nI h12 (show 12 < 2 ^ 31 by decide), nI_clamp (show i < 2 ^ 31 by omega), if_pos h12]
    exact hp m2 f2 l2 g2
def Rea (t : SG) (i : Nat) (m : Nat → Nat → Int32) : Prop := ∀ k, k < sz t i → m (13 + 8 * i) k = bI (decide (0 < Rw t i k))
set_option maxHeartbeats 2000000 in
theorem rc12 {Post : Int32 → MH → Prop} {t : SG} {mu : Nat → Nat → Int32} {l : Nat → Int64} (hb : CB t mu) (hw : WF t) {i : Nat} (hi : i + 1 < sn t) (hL : Lst t i mu) (hR : Rea t i mu) {q : Nat} (hq : q < sz t (i + 1)) (hp : ∀ m2, MF 104 mu m2 → Post (bI (decide (0 < Rw t (i + 1) q))) (Hm m2 l)) : ∀ n k m, k + n = sz t i → MF 104 mu m → (∀ c, c < k → 0 < Rw t i c → okM t (i + 1) c q = false) → wn_Se_reachable_12 Post (n + 1) 1 (nI (i + 1)) (nI (pkv (vv t (i + 1) q))) (11 + 8 * i) (nI k) (Hm m l) := by
  have hn := hw.n
  have h12 : i < 12 := by omega
  have g12 : i + 1 < 12 := by omega
  have hM : IsM 104 := Or.inl rfl
  have hz := sz_112 hw (show i < sn t by omega)
  have s1 : nI (i + 1) - 1 = nI i := n_sub1 (by omega)
  intro n
  induction n with
  | zero =>
    intro k m hk hm hno
    have e11 : m (11 + 8 * i) = mu (11 + 8 * i) := hm _ (by omega)
    show wb_Se_reachable_12 _ _ _ _ _ _ _ _
    unfold wb_Se_reachable_12
    simp only [Option.some.injEq, Sum.inl.injEq, Sum.inr.injEq, Prod.mk.injEq, and_assoc, exists_eq_left', exists_eq_left, exists_and_left, exists_and_right, exists_eq', exists_eq, forall_eq, forall_eq', true_and, and_true, exists_const, Hm_1, gF_co_4 _ _ h12, e11, hL.1, nI_leI (show sz t i < 2 ^ 31 by omega) (show k < 2 ^ 31 by omega)]
    refine ⟨fun _ => ?_, fun e => absurd (by omega) e⟩
    have := hp m hm
    have z : decide (0 < Rw t (i + 1) q) = false := by
      rw [decide_eq_false_iff_not]
      intro z
      obtain ⟨j, hj, q1, q2⟩ := Rw_from z
      rw [hno j (by omega) q1] at q2
      cases q2
    rw [z] at this
    exact this
  | succ n ih =>
    intro k m hk hm hno
    have e11 : m (11 + 8 * i) = mu (11 + 8 * i) := hm _ (by omega)
    have e12 : m (12 + 8 * i) = mu (12 + 8 * i) := hm _ (by omega)
    have e13 : m (13 + 8 * i) = mu (13 + 8 * i) := hm _ (by omega)
    have hbm := hb.mf hw hM hm
    show wb_Se_reachable_12 _ _ _ _ _ _ _ _
    unfold wb_Se_reachable_12 wp_Se_reachable_89
    simp only [Option.some.injEq, Sum.inl.injEq, Sum.inr.injEq, Prod.mk.injEq, and_assoc, exists_eq_left', exists_eq_left, exists_and_left, exists_and_right, exists_eq', exists_eq, forall_eq, forall_eq', true_and, and_true, exists_const, Hm_1, gF_co_4 _ _ h12, e11, hL.1, nI_leI (show sz t i < 2 ^ 31 by omega) (show k < 2 ^ 31 by omega), gF_co_1 _ _ h12, gA_re _ _ h12, vp_in_nI (show k < 112 by omega) (show 112 < 2 ^ 31 by decide), nI_clamp (show k < 2 ^ 31 by omega), e13, hR k (show k < sz t i by omega), bI_0, gF_Se_3, gF_Se_0, gR_CA, s1, vp_in_nI h12 (show 12 < 2 ^ 31 by decide), nI_clamp (show i < 2 ^ 31 by omega), if_pos h12, gF_co_0 _ _ h12, gA_vo _ _ h12, e12, hL.2 k (show k < sz t i by omega), gC_Mv hM, nI_1]
    refine ⟨fun e => absurd e (by omega), fun _ => ⟨fun e => ?_, fun e => ?_⟩⟩
    · have hR1 : 0 < Rw t i k := by simp at e; omega
      refine sp_Mv_leave hM hw (by omega) (hbm.2 i (by omega)) (Vx_v hw (by omega) (by omega)) (fun m1 f1 l1 => ?_)
      have hb1 := hbm.mf hw hM f1
      simp only [Option.some.injEq, Sum.inl.injEq, Sum.inr.injEq, Prod.mk.injEq, and_assoc, exists_eq_left', exists_eq_left, exists_and_left, exists_and_right, exists_eq', exists_eq, forall_eq, forall_eq', true_and, and_true, exists_const, Hm_1, gF_Se_3, gF_Se_0, gR_CA, vp_in_nI g12 (show 12 < 2 ^ 31 by decide), nI_clamp (show i + 1 < 2 ^ 31 by omega), if_pos g12, gC_Mv hM]
      refine sp_Mv_arrive hM hw hi (hb1.2 _ hi) (Vx_v hw hi hq) l1 (fun m2 f2 l2 a2 => ?_)
      have hb2 := hb1.mf hw hM f2
      simp only [Option.some.injEq, Sum.inl.injEq, Sum.inr.injEq, Prod.mk.injEq, and_assoc, exists_eq_left', exists_eq_left, exists_and_left, exists_and_right, exists_eq', exists_eq, forall_eq, forall_eq', true_and, and_true, exists_const, Hm_1, gF_Se_3, gF_Se_1, gF_Ru_3, hb2.1.2.1, gC_Mv hM]
      refine sp_Mv_rule (i := i + 1) hw (by omega) hM l2 a2 ?_
      have pl := pairR_le t (i + 1) (vv t (i + 1) q) (vv t i k)
      rw [n_eq0 (by omega)]
      have hm2 := (hm.tr f1).tr f2
      refine ⟨fun e2 => ih (k + 1) m2 (by omega) hm2 (fun c hc h0 => ?_), fun e2 => ?_⟩
      · by_cases ec : c = k
        · subst ec
          show decide (pairR t (i + 1) (vv t (i + 1) q) (vv t i c) = 0) = false
          simpa using e2
        · exact hno c (by omega) h0
      · have := hp m2 hm2
        have z : decide (0 < Rw t (i + 1) q) = true := by
          rw [decide_eq_true_eq]
          refine Rw_go (show k < sz t i by omega) hR1 ?_
          show decide (pairR t (i + 1) (vv t (i + 1) q) (vv t i k) = 0) = true
          simpa using e2
        rw [z] at this
        exact this
    · refine ih (k + 1) m (by omega) hm (fun c hc h0 => ?_)
      by_cases ec : c = k
      · subst ec
        have : ¬ 0 < Rw t i c := by simpa using e
        exact absurd h0 this
      · exact hno c (by omega) h0
theorem sp_Se_reachable {Post : Int32 → MH → Prop} {t : SG} {mu : Nat → Nat → Int32} {l : Nat → Int64} (hb : CB t mu) (hw : WF t) {i : Nat} (hi : i + 1 < sn t) (hL : Lst t i mu) (hR : Rea t i mu) {q : Nat} (hq : q < sz t (i + 1)) (hp : ∀ m2, MF 104 mu m2 → Post (bI (decide (0 < Rw t (i + 1) q))) (Hm m2 l)) : wp_Se_reachable Post 1 (nI (i + 1)) (nI (pkv (vv t (i + 1) q))) (Hm mu l) := by
  have hn := hw.n
  have h12 : i < 12 := by omega
  have s1 : nI (i + 1) - 1 = nI i := n_sub1 (by omega)
  unfold wp_Se_reachable
  simp only [Option.some.injEq, Sum.inl.injEq, Sum.inr.injEq, Prod.mk.injEq, and_assoc, exists_eq_left', exists_eq_left, exists_and_left, exists_and_right, exists_eq', exists_eq, forall_eq, forall_eq', true_and, and_true, exists_const, Hm_1, gF_Se_2, gR_CO, s1, vp_in_nI h12 (show 12 < 2 ^ 31 by decide), nI_clamp (show i < 2 ^ 31 by omega), if_pos h12]
  exact ⟨_, rc12 hb hw hi hL hR hq hp (sz t i) 0 mu (by omega) (fun _ _ => rfl) (fun c hc _ => absurd hc (Nat.not_lt_zero _))⟩
def RX (i : Nat) (mu m : Nat → Nat → Int32) : Prop := ∀ k, ¬ k = 13 + 8 * i → ¬ (104 ≤ k ∧ k ≤ 107) → m k = mu k
theorem nar_b (b : Bool) : vp_nar .boolean (bI b) = bI b := by cases b <;> rfl
set_option maxHeartbeats 2000000 in
theorem re2 {Post : MH → Prop} {t : SG} {mu : Nat → Nat → Int32} {l : Nat → Int64} (hb : CB t mu) (hw : WF t) {i : Nat} (hi : i < sn t) (hL : Lst t i mu) (hB : 0 < i → Lst t (i - 1) mu ∧ Rea t (i - 1) mu) (hp : ∀ m2, RX i mu m2 → Rea t i m2 → Post (Hm m2 l)) : ∀ n k m, k + n = sz t i → RX i mu m → (∀ c, c < k → m (13 + 8 * i) c = bI (decide (0 < Rw t i c))) → wn_Se_reach_2 Post (n + 1) 1 (nI i) (11 + 8 * i) (nI k) (Hm m l) := by
  have hn := hw.n
  have h12 : i < 12 := by omega
  have hM : IsM 104 := Or.inl rfl
  have hz := sz_112 hw hi
  intro n
  induction n with
  | zero =>
    intro k m hk hm hd
    have e11 : m (11 + 8 * i) = mu (11 + 8 * i) := hm _ (by omega) (by omega)
    show wb_Se_reach_2 _ _ _ _ _ _ _
    unfold wb_Se_reach_2
    simp only [Option.some.injEq, Sum.inl.injEq, Sum.inr.injEq, Prod.mk.injEq, and_assoc, exists_eq_left', exists_eq_left, exists_and_left, exists_and_right, exists_eq', exists_eq, forall_eq, forall_eq', true_and, and_true, exists_const, Hm_1, gF_co_4 _ _ h12, e11, hL.1, nI_leI (show sz t i < 2 ^ 31 by omega) (show k < 2 ^ 31 by omega)]
    exact ⟨fun _ => hp m hm (fun c hc => hd c (by omega)), fun e => absurd (by omega) e⟩
  | succ n ih =>
    intro k m hk hm hd
    have e11 : m (11 + 8 * i) = mu (11 + 8 * i) := hm _ (by omega) (by omega)
    have e12 : m (12 + 8 * i) = mu (12 + 8 * i) := hm _ (by omega) (by omega)
    have hbm : CB t m := hb.of hw (hm 0 (by omega) (by omega)) (fun k _ _ => hm k (by omega) (by omega)) (fun j hj => ⟨hm _ (by omega) (by omega), hm _ (by omega) (by omega), hm _ (by omega) (by omega)⟩)
    have nx : ∀ m2, MF 104 m m2 → wp_Se_reach_60 (wn_Se_reach_2 Post (n + 1)) Post 1 (nI i) (11 + 8 * i) (nI k) (13 + 8 * i) (nI k) (bI (decide (0 < Rw t i k))) (Hm m2 l) := by
      intro m2 f2
      unfold wp_Se_reach_60
      simp only [Option.some.injEq, Sum.inl.injEq, Sum.inr.injEq, Prod.mk.injEq, and_assoc, exists_eq_left', exists_eq_left, exists_and_left, exists_and_right, exists_eq', exists_eq, forall_eq, forall_eq', true_and, and_true, exists_const, Hm_1, gA_re _ _ h12, ms_re _ _ h12, vp_in_nI (show k < 112 by omega) (show 112 < 2 ^ 31 by decide), nI_clamp (show k < 2 ^ 31 by omega), nar_b, nI_1]
      have e13 : m2 (13 + 8 * i) = m (13 + 8 * i) := f2 _ (by omega)
      refine ih (k + 1) _ (by omega) (fun c q1 q2 => by rw [up_k q1, f2 c (by omega)]; exact hm c q1 q2) (fun c hc => ?_)
      by_cases ec : c = k
      · subst ec; rw [up_at]
      · rw [up_j ec, e13]; exact hd c (by omega)
    show wb_Se_reach_2 _ _ _ _ _ _ _
    unfold wb_Se_reach_2
    simp only [Option.some.injEq, Sum.inl.injEq, Sum.inr.injEq, Prod.mk.injEq, and_assoc, exists_eq_left', exists_eq_left, exists_and_left, exists_and_right, exists_eq', exists_eq, forall_eq, forall_eq', true_and, and_true, exists_const, Hm_1, gF_co_4 _ _ h12, e11, hL.1, nI_leI (show sz t i < 2 ^ 31 by omega) (show k < 2 ^ 31 by omega), gF_co_0 _ _ h12, gF_co_1 _ _ h12, gA_vo _ _ h12, vp_in_nI (show k < 112 by omega) (show 112 < 2 ^ 31 by decide), nI_clamp (show k < 2 ^ 31 by omega), e12, hL.2 k (show k < sz t i by omega), gC_Se, n_eq0 (show i < 2 ^ 31 by omega), gF_Se_0, gF_Se_1, gR_CA, show vp_in 0 12 from (by unfold vp_in; decide), show ((0 : Int32)).toNatClampNeg = 0 from rfl, if_pos (show 0 < 12 by decide), gC_Ru]
    refine ⟨fun e => absurd e (by omega), fun _ => ⟨fun e => ?_, fun e => ?_⟩⟩
    · obtain ⟨j, rfl⟩ : ∃ j, i = j + 1 := ⟨i - 1, by omega⟩
      have hB2 := hB (by omega)
      have hLj : Lst t j m := hB2.1.k (hm _ (by show ¬ 11 + 8 * (j + 1 - 1) = _; omega) (by show ¬ (104 ≤ 11 + 8 * (j + 1 - 1) ∧ _); omega)) (hm _ (by show ¬ 12 + 8 * (j + 1 - 1) = _; omega) (by show ¬ (104 ≤ 12 + 8 * (j + 1 - 1) ∧ _); omega))
      have hRj : Rea t j m := by
        have e : m (13 + 8 * j) = mu (13 + 8 * j) := hm _ (by omega) (by omega)
        intro c hc
        rw [e]; exact hB2.2 c hc
      exact sp_Se_reachable hbm hw hi hLj hRj (by omega) (fun m2 f2 => nx m2 f2)
    · subst e
      refine sp_Ru_ofStart hbm hw hi (Vx_v hw hi (show k < sz t 0 by omega)).1 ?_
      have pl := pair0_le t (vv t 0 k)
      have nx0 := nx m (fun _ _ => rfl)
      have r : Rw t 0 k = if okS t k then 1 else 0 := rfl
      rw [n_eq0 (by omega)]
      refine ⟨fun e => ?_, fun e => ?_⟩
      · have z : okS t k = false := by unfold okS; simpa using e
        rw [r, z] at nx0
        exact nx0
      · have z : okS t k = true := by unfold okS; simpa using e
        rw [r, z] at nx0
        exact nx0
theorem sp_Se_reach {Post : MH → Prop} {t : SG} {mu : Nat → Nat → Int32} {l : Nat → Int64} (hb : CB t mu) (hw : WF t) {i : Nat} (hi : i < sn t) (hL : Lst t i mu) (hB : 0 < i → Lst t (i - 1) mu ∧ Rea t (i - 1) mu) (hp : ∀ m2, RX i mu m2 → Rea t i m2 → Post (Hm m2 l)) : wp_Se_reach Post 1 (nI i) (11 + 8 * i) (Hm mu l) :=
  ⟨_, re2 hb hw hi hL hB hp (sz t i) 0 mu (by omega) (fun _ _ _ => rfl) (fun c hc => absurd hc (Nat.not_lt_zero _))⟩
theorem sp_Co_reachedAtAll {Post : Int32 → MH → Prop} {t : SG} {mu : Nat → Nat → Int32} {l : Nat → Int64} (hw : WF t) {i : Nat} (hi : i < sn t) (hL : Lst t i mu) (hR : Rea t i mu) (hp : Post (bI (some1 t i)) (Hm mu l)) : wp_Co_reachedAtAll Post (11 + 8 * i) (Hm mu l) := by
  have hn := hw.n
  have h12 : i < 12 := by omega
  have hz := sz_112 hw hi
  have key : ∀ n k, k + n = sz t i → anyTo (fun k => decide (0 < Rw t i k)) k = false → wn_Co_reachedAtAll_2 Post (n + 1) (11 + 8 * i) (nI k) (Hm mu l) := by
    intro n
    induction n with
    | zero =>
      intro k hk ha
      show wb_Co_reachedAtAll_2 _ _ _ _ _
      unfold wb_Co_reachedAtAll_2
      simp only [Option.some.injEq, Sum.inl.injEq, Sum.inr.injEq, Prod.mk.injEq, and_assoc, exists_eq_left', exists_eq_left, exists_and_left, exists_and_right, exists_eq', exists_eq, forall_eq, forall_eq', true_and, and_true, exists_const, Hm_1, gF_co_4 _ _ h12, hL.1, nI_leI (show sz t i < 2 ^ 31 by omega) (show k < 2 ^ 31 by omega)]
      refine ⟨fun _ => ?_, fun e => absurd (by omega) e⟩
      have : some1 t i = false := by unfold some1; rw [show sz t i = k by omega]; exact ha
      rw [this] at hp
      exact hp
    | succ n ih =>
      intro k hk ha
      show wb_Co_reachedAtAll_2 _ _ _ _ _
      unfold wb_Co_reachedAtAll_2
      simp only [Option.some.injEq, Sum.inl.injEq, Sum.inr.injEq, Prod.mk.injEq, and_assoc, exists_eq_left', exists_eq_left, exists_and_left, exists_and_right, exists_eq', exists_eq, forall_eq, forall_eq', true_and, and_true, exists_const, Hm_1, gF_co_4 _ _ h12, hL.1, nI_leI (show sz t i < 2 ^ 31 by omega) (show k < 2 ^ 31 by omega), gF_co_1 _ _ h12, gA_re _ _ h12, vp_in_nI (show k < 112 by omega) (show 112 < 2 ^ 31 by decide), nI_clamp (show k < 2 ^ 31 by omega), hR k (show k < sz t i by omega), bI_0, nI_1]
      refine ⟨fun e => absurd e (by omega), fun _ => ⟨fun e => ih (k + 1) (by omega) ?_, fun e => ?_⟩⟩
      · rw [anyTo_s, ha]; simpa using e
      · have : some1 t i = true := anyTo_of (show k < sz t i by omega) (by simp at e ⊢; omega)
        rw [this] at hp
        exact hp
  exact ⟨_, key (sz t i) 0 (by omega) rfl⟩
theorem sp_Se_joined (Post : Int32 → MH → Prop) {a b : Nat} (ha : a ≤ 1000000000) (hb : b ≤ 1000000000) (h : MH) : wp_Se_joined Post (nI a) (nI b) h ↔ Post (nI (cap (a + b))) h := by
  unfold wp_Se_joined cap MANYN
  rw [nI_add, show (1000000000 : Int32) = nI 1000000000 from rfl, mx_nI (by decide) (by omega)]
def Wgd (t : SG) (i : Nat) (m : Nat → Nat → Int32) : Prop := ∀ k, k < sz t i → m (14 + 8 * i) k = nI (WT t i k) ∧ m (15 + 8 * i) k = nI (QT t i k)
theorem okM_1 (t : SG) (i j k : Nat) : okM t (i + 1) j k = true ↔ pairR t (i + 1) (vv t (i + 1) k) (vv t i j) = 0 := by
  show decide (pairR t (i + 1) (vv t (i + 1) k) (vv t i j) = 0) = true ↔ _
  exact decide_eq_true_iff
set_option maxHeartbeats 4000000 in
theorem we42 {Post : MH → Prop} {t : SG} {mu : Nat → Nat → Int32} {l : Nat → Int64} (hb : CB t mu) (hw : WF t) {i j : Nat} (hi : i + 1 < sn t) (hj : j < sz t i) (hR : 0 < Rw t i j) (hL : Lst t (i + 1) mu) (hW : Wgd t (i + 1) mu) (hp : ∀ m2, MF 104 mu m2 → Post (Hm (up (up m2 (14 + 8 * i) j (nI (WT t i j))) (15 + 8 * i) j (nI (QT t i j))) l)) : ∀ n k m, k + n = sz t (i + 1) → MF 104 mu m → Lv t i (vv t i j) 104 m → wn_Se_weighOne_42 Post (n + 1) 1 (nI i) (nI j) (11 + 8 * (i + 1)) (nI (cap (sumTo (wtF t i j) k))) (nI (lea t i j k)) (nI k) (Hm m l) := by
  have hn := hw.n
  have h12 : i < 12 := by omega
  have g12 : i + 1 < 12 := by omega
  have hM : IsM 104 := Or.inl rfl
  have hz := sz_112 hw hi
  have hz0 := sz_112 hw (show i < sn t by omega)
  intro n
  induction n with
  | zero =>
    intro k m hk hm hl
    have e11 : m (11 + 8 * (i + 1)) = mu (11 + 8 * (i + 1)) := hm _ (by omega)
    show wb_Se_weighOne_42 _ _ _ _ _ _ _ _ _ _
    unfold wb_Se_weighOne_42
    simp only [Option.some.injEq, Sum.inl.injEq, Sum.inr.injEq, Prod.mk.injEq, and_assoc, exists_eq_left', exists_eq_left, exists_and_left, exists_and_right, exists_eq', exists_eq, forall_eq, forall_eq', true_and, and_true, exists_const, Hm_1, gF_co_4 _ _ g12, e11, hL.1, nI_leI (show sz t (i + 1) < 2 ^ 31 by omega) (show k < 2 ^ 31 by omega), gF_Se_2, gR_CO, vp_in_nI h12 (show 12 < 2 ^ 31 by decide), nI_clamp (show i < 2 ^ 31 by omega), if_pos h12, gF_co_2 _ _ h12, gF_co_3 _ _ h12, gA_wa _ _ h12, ms_wa _ _ h12, gA_rs _ _ h12, ms_rs _ _ h12, vp_in_nI (show j < 112 by omega) (show 112 < 2 ^ 31 by decide), nI_clamp (show j < 2 ^ 31 by omega)]
    refine ⟨fun _ => ?_, fun e => absurd (by omega) e⟩
    rw [show k = sz t (i + 1) by omega, WT_s hi hj hR, lea_e hi hj hR]
    exact hp m hm
  | succ n ih =>
    intro k m hk hm hl
    have e11 : m (11 + 8 * (i + 1)) = mu (11 + 8 * (i + 1)) := hm _ (by omega)
    have e12 : m (12 + 8 * (i + 1)) = mu (12 + 8 * (i + 1)) := hm _ (by omega)
    have hbm := hb.mf hw hM hm
    have s1 : nI i + 1 = nI (i + 1) := nI_1 i
    have RS := rs_wt hw hi hj hR (k := k) (by omega)
    have LS := lea_s hw hi hj hR (m := k) (by omega)
    have same : wtF t i j k = 0 → cap (sumTo (wtF t i j) (k + 1)) = cap (sumTo (wtF t i j) k) ∧ lea t i j (k + 1) = lea t i j k := fun e => ⟨by rw [sumTo_s, e, Nat.add_zero], LS.1 e⟩
    have skip : wtF t i j k = 0 → ∀ m2, MF 104 mu m2 → Lv t i (vv t i j) 104 m2 → wn_Se_weighOne_42 Post (n + 1) 1 (nI i) (nI j) (11 + 8 * (i + 1)) (nI (cap (sumTo (wtF t i j) k))) (nI (lea t i j k)) (nI (k + 1)) (Hm m2 l) := by
      intro e m2 f2 l2
      have := ih (k + 1) m2 (by omega) f2 l2
      rw [(same e).1, (same e).2] at this
      exact this
    show wb_Se_weighOne_42 _ _ _ _ _ _ _ _ _ _
    unfold wb_Se_weighOne_42 wp_Se_weighOne_153
    simp only [Option.some.injEq, Sum.inl.injEq, Sum.inr.injEq, Prod.mk.injEq, and_assoc, exists_eq_left', exists_eq_left, exists_and_left, exists_and_right, exists_eq', exists_eq, forall_eq, forall_eq', true_and, and_true, exists_const, Hm_1, gF_co_4 _ _ g12, e11, hL.1, nI_leI (show sz t (i + 1) < 2 ^ 31 by omega) (show k < 2 ^ 31 by omega), gF_Se_3, gF_Se_0, gR_CA, s1, vp_in_nI g12 (show 12 < 2 ^ 31 by decide), nI_clamp (show i + 1 < 2 ^ 31 by omega), if_pos g12, gF_co_0 _ _ g12, gA_vo _ _ g12, vp_in_nI (show k < 112 by omega) (show 112 < 2 ^ 31 by decide), nI_clamp (show k < 2 ^ 31 by omega), e12, hL.2 k (show k < sz t (i + 1) by omega), gC_Mv hM, nI_1]
    refine ⟨fun e => absurd e (by omega), fun _ => ?_⟩
    refine sp_Mv_arrive hM hw hi (hbm.2 _ hi) (Vx_v hw hi (by omega)) hl (fun m2 f2 l2 a2 => ?_)
    have hm2 := hm.tr f2
    have hb2 := hbm.mf hw hM f2
    have e14 : m2 (14 + 8 * (i + 1)) = mu (14 + 8 * (i + 1)) := hm2 _ (by omega)
    have e15 : m2 (15 + 8 * (i + 1)) = mu (15 + 8 * (i + 1)) := hm2 _ (by omega)
    have w := hW k (by omega)
    have wl := WT_le t (i + 1) k
    simp only [Option.some.injEq, Sum.inl.injEq, Sum.inr.injEq, Prod.mk.injEq, and_assoc, exists_eq_left', exists_eq_left, exists_and_left, exists_and_right, exists_eq', exists_eq, forall_eq, forall_eq', true_and, and_true, exists_const, Hm_1, gF_co_2 _ _ g12, gA_wa _ _ g12, vp_in_nI (show k < 112 by omega) (show 112 < 2 ^ 31 by decide), nI_clamp (show k < 2 ^ 31 by omega), e14, w.1, n_eq0 (show WT t (i + 1) k < 2 ^ 31 by omega), gF_Se_3, gF_Se_1, gF_Ru_3, hb2.1.2.1, gC_Mv hM]
    refine ⟨fun e => skip (by unfold wtF; rw [e]; split <;> rfl) m2 hm2 l2, fun e => ?_⟩
    refine sp_Mv_rule (i := i + 1) hw (by omega) hM l2 a2 ?_
    have pl := pairR_le t (i + 1) (vv t (i + 1) k) (vv t i j)
    rw [n_eq0 (by omega)]
    refine ⟨fun e2 => ?_, fun e2 => skip (by unfold wtF; rw [if_neg (fun z => e2 ((okM_1 t i j k).mp z))]) m2 hm2 l2⟩
    have eW : wtF t i j k = WT t (i + 1) k := by unfold wtF; rw [if_pos ((okM_1 t i j k).mpr e2)]
    have nz : ¬ wtF t i j k = 0 := by rw [eW]; exact e
    have R2 := RS.2 nz
    have eQ : QT t (i + 1) k = RsT t (i + 1) k := by unfold QT; rw [if_neg e]
    simp only [Option.some.injEq, Sum.inl.injEq, Sum.inr.injEq, Prod.mk.injEq, and_assoc, exists_eq_left', exists_eq_left, exists_and_left, exists_and_right, exists_eq', exists_eq, forall_eq, forall_eq', true_and, and_true, exists_const, Hm_1, gF_Se_3, gC_Mv hM]
    refine sp_Mv_length hM a2 (Vx_v hw hi (by omega)).1 (Vx_v hw (by omega) hj).1 ?_
    simp only [Option.some.injEq, Sum.inl.injEq, Sum.inr.injEq, Prod.mk.injEq, and_assoc, exists_eq_left', exists_eq_left, exists_and_left, exists_and_right, exists_eq', exists_eq, forall_eq, forall_eq', true_and, and_true, exists_const, Hm_1, gF_co_3 _ _ g12, gA_rs _ _ g12, vp_in_nI (show k < 112 by omega) (show 112 < 2 ^ 31 by decide), nI_clamp (show k < 2 ^ 31 by omega), e15, w.2, eQ, nI_add, ← R2.2.2.1]
    have cl := cap_le (sumTo (wtF t i j) k)
    have c0 := cap_0 (sumTo (wtF t i j) k)
    have L2 := LS.2 nz
    have rl : rsF t i j k ≤ 4572 := by omega
    have tot : cap (cap (sumTo (wtF t i j) k) + WT t (i + 1) k) = cap (sumTo (wtF t i j) (k + 1)) := by
      rw [sumTo_s, eW]; exact cap_add (cap_cap _) rfl
    have jn : ∀ y : Nat, y = lea t i j (k + 1) → wp_Se_weighOne_137 (wn_Se_weighOne_42 Post (n + 1)) Post 1 (nI i) (nI j) (11 + 8 * (i + 1)) (nI (cap (sumTo (wtF t i j) k))) (nI k) (nI y) (Hm m2 l) := by
      intro y hy
      unfold wp_Se_weighOne_137 wp_Se_weighOne_153
      simp only [Option.some.injEq, Sum.inl.injEq, Sum.inr.injEq, Prod.mk.injEq, and_assoc, exists_eq_left', exists_eq_left, exists_and_left, exists_and_right, exists_eq', exists_eq, forall_eq, forall_eq', true_and, and_true, exists_const, Hm_1, gF_co_2 _ _ g12, gA_wa _ _ g12, vp_in_nI (show k < 112 by omega) (show 112 < 2 ^ 31 by decide), nI_clamp (show k < 2 ^ 31 by omega), e14, w.1, sp_Se_joined _ cl wl, tot, nI_1, hy]
      exact ih (k + 1) m2 (by omega) hm2 l2
    have ll : lea t i j k ≤ 100000000 := by
      unfold lea; split
      · omega
      · exact minTo_le _ _ _
    rw [n_eq0 (show cap (sumTo (wtF t i j) k) < 2 ^ 31 by omega), c0, mx_nI (show rsF t i j k < 2 ^ 31 by omega) (show lea t i j k < 2 ^ 31 by omega)]
    refine ⟨fun z => ?_, fun z => ?_⟩
    · rw [if_neg z] at L2
      exact jn _ L2.symm
    · rw [if_pos z] at L2
      exact jn _ L2.symm
set_option maxHeartbeats 1000000 in
theorem sp_Se_weighOne {Post : MH → Prop} {t : SG} {mu : Nat → Nat → Int32} {l : Nat → Int64} (hb : CB t mu) (hw : WF t) {i j : Nat} (hi : i + 1 < sn t) (hj : j < sz t i) (hR : 0 < Rw t i j) (hL0 : Lst t i mu) (hL : Lst t (i + 1) mu) (hW : Wgd t (i + 1) mu) (hp : ∀ m2, MF 104 mu m2 → Post (Hm (up (up m2 (14 + 8 * i) j (nI (WT t i j))) (15 + 8 * i) j (nI (QT t i j))) l)) : wp_Se_weighOne Post 1 (nI i) (nI j) (Hm mu l) := by
  have hn := hw.n
  have h12 : i < 12 := by omega
  have g12 : i + 1 < 12 := by omega
  have hM : IsM 104 := Or.inl rfl
  have hz0 := sz_112 hw (show i < sn t by omega)
  unfold wp_Se_weighOne
  simp only [Option.some.injEq, Sum.inl.injEq, Sum.inr.injEq, Prod.mk.injEq, and_assoc, exists_eq_left', exists_eq_left, exists_and_left, exists_and_right, exists_eq', exists_eq, forall_eq, forall_eq', true_and, and_true, exists_const, Hm_1, gF_Se_2, gF_Se_3, gF_Se_0, gR_CO, gR_CA, nI_1, vp_in_nI g12 (show 12 < 2 ^ 31 by decide), vp_in_nI h12 (show 12 < 2 ^ 31 by decide), nI_clamp (show i < 2 ^ 31 by omega), nI_clamp (show i + 1 < 2 ^ 31 by omega), if_pos h12, if_pos g12, gF_co_0 _ _ h12, gA_vo _ _ h12, vp_in_nI (show j < 112 by omega) (show 112 < 2 ^ 31 by decide), nI_clamp (show j < 2 ^ 31 by omega), hL0.2 j hj, gC_Mv hM]
  refine sp_Mv_leave hM hw (by omega) (hb.2 i (by omega)) (Vx_v hw (by omega) hj) (fun m1 f1 l1 => ?_)
  exact ⟨_, we42 hb hw hi hj hR hL hW hp (sz t (i + 1)) 0 m1 (by omega) f1 l1⟩
