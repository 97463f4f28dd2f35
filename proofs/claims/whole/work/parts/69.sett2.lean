def PX (i : Nat) (mu m : Nat → Nat → Int32) : Prop := (∀ k, ¬ (104 ≤ k ∧ k ≤ 108) → m k = mu k) ∧ ∀ q, ¬ q = i → m 108 q = mu 108 q
theorem bstM {t : SG} (hw : WF t) {i j : Nat} (hi : i + 1 < sn t) (hj : j < sz t i) (hR : 0 < Rw t i j) : ∀ k, k ≤ sz t (i + 1) → sumTo (wtF t i j) k = 0 → bst (bM t (i + 1) (vv t i j)) k = (FARN, 0)
  | 0, _, _ => rfl
  | k + 1, hk, e => by
    rw [sumTo_s] at e
    rw [bst_s, bstM hw hi hj hR k (by omega) (by omega), (bM_w hw hi hj hR (k := k) (by omega)).1 (by omega)]
    rfl
theorem nI_m1 {a : Nat} (h : a < 2 ^ 31) : ¬ nI a = -1 := by
  rw [i_eq, nI_t h, show ((-1 : Int32)).toInt = -1 from rfl]
  omega
set_option maxHeartbeats 4000000 in
theorem pn35 {Post : MH → Prop} {t : SG} {mu : Nat → Nat → Int32} {l : Nat → Int64} (hb : CB t mu) (hw : WF t) {i j : Nat} (hi : i + 1 < sn t) (hj : j < sz t i) (hR : 0 < Rw t i j) (hL : Lst t (i + 1) mu) (hW : Wgd t (i + 1) mu) (hnz : ¬ sumTo (wtF t i j) (sz t (i + 1)) = 0) (hp : ∀ m2, PX (i + 1) mu m2 → m2 108 (i + 1) = nI (pkv (vv t (i + 1) (bst (bM t (i + 1) (vv t i j)) (sz t (i + 1))).2)) → Post (Hm m2 l)) : ∀ n k m, k + n = sz t (i + 1) → PX (i + 1) mu m → Lv t i (vv t i j) 104 m → (¬ sumTo (wtF t i j) k = 0 → m 108 (i + 1) = nI (pkv (vv t (i + 1) (bst (bM t (i + 1) (vv t i j)) k).2))) → wn_Se_pickNext_35 Post (n + 1) 1 (nI (i + 1)) (11 + 8 * (i + 1)) (if sumTo (wtF t i j) k = 0 then -1 else nI (bst (bM t (i + 1) (vv t i j)) k).1) (nI k) (Hm m l) := by
  have hn := hw.n
  have g12 : i + 1 < 12 := by omega
  have hM : IsM 104 := Or.inl rfl
  have hz := sz_112 hw hi
  intro n
  induction n with
  | zero =>
    intro k m hk hm hl hd
    have e11 : m (11 + 8 * (i + 1)) = mu (11 + 8 * (i + 1)) := hm.1 _ (by omega)
    show wb_Se_pickNext_35 _ _ _ _ _ _ _ _
    unfold wb_Se_pickNext_35
    simp only [Option.some.injEq, Sum.inl.injEq, Sum.inr.injEq, Prod.mk.injEq, and_assoc, exists_eq_left', exists_eq_left, exists_and_left, exists_and_right, exists_eq', exists_eq, forall_eq, forall_eq', true_and, and_true, exists_const, Hm_1, gF_co_4 _ _ g12, e11, hL.1, nI_leI (show sz t (i + 1) < 2 ^ 31 by omega) (show k < 2 ^ 31 by omega)]
    refine ⟨fun _ => hp m hm ?_, fun e => absurd (by omega) e⟩
    rw [show k = sz t (i + 1) by omega] at hd
    exact hd hnz
  | succ n ih =>
    intro k m hk hm hl hd
    have e11 : m (11 + 8 * (i + 1)) = mu (11 + 8 * (i + 1)) := hm.1 _ (by omega)
    have e12 : m (12 + 8 * (i + 1)) = mu (12 + 8 * (i + 1)) := hm.1 _ (by omega)
    have hbm : CB t m := hb.of hw (hm.1 0 (by omega)) (fun q _ _ => hm.1 q (by omega)) (fun q hq => ⟨hm.1 _ (by omega), hm.1 _ (by omega), hm.1 _ (by omega)⟩)
    have RS := rs_wt hw hi hj hR (k := k) (by omega)
    have MB := bM_w hw hi hj hR (k := k) (by omega)
    have bl := bst_le (bM t (i + 1) (vv t i j)) k
    have skip : wtF t i j k = 0 → ∀ m2, PX (i + 1) mu m2 → Lv t i (vv t i j) 104 m2 → m2 108 = m 108 → wn_Se_pickNext_35 Post (n + 1) 1 (nI (i + 1)) (11 + 8 * (i + 1)) (if sumTo (wtF t i j) k = 0 then -1 else nI (bst (bM t (i + 1) (vv t i j)) k).1) (nI (k + 1)) (Hm m2 l) := by
      intro e m2 f2 l2 e8
      have es : sumTo (wtF t i j) (k + 1) = sumTo (wtF t i j) k := by rw [sumTo_s, e, Nat.add_zero]
      have eb : bst (bM t (i + 1) (vv t i j)) (k + 1) = bst (bM t (i + 1) (vv t i j)) k := by
        rw [bst_s, if_neg]
        rw [MB.1 e]; unfold FARN; omega
      have := ih (k + 1) m2 (by omega) f2 l2 (by rw [es, eb, e8]; exact hd)
      rw [es, eb] at this
      exact this
    show wb_Se_pickNext_35 _ _ _ _ _ _ _ _
    unfold wb_Se_pickNext_35 wp_Se_pickNext_138
    simp only [Option.some.injEq, Sum.inl.injEq, Sum.inr.injEq, Prod.mk.injEq, and_assoc, exists_eq_left', exists_eq_left, exists_and_left, exists_and_right, exists_eq', exists_eq, forall_eq, forall_eq', true_and, and_true, exists_const, Hm_1, gF_co_4 _ _ g12, e11, hL.1, nI_leI (show sz t (i + 1) < 2 ^ 31 by omega) (show k < 2 ^ 31 by omega), gF_Se_3, gF_Se_0, gR_CA, vp_in_nI g12 (show 12 < 2 ^ 31 by decide), nI_clamp (show i + 1 < 2 ^ 31 by omega), if_pos g12, gF_co_0 _ _ g12, gA_vo _ _ g12, vp_in_nI (show k < 112 by omega) (show 112 < 2 ^ 31 by decide), nI_clamp (show k < 2 ^ 31 by omega), e12, hL.2 k (show k < sz t (i + 1) by omega), gC_Mv hM, nI_1]
    refine ⟨fun e => absurd e (by omega), fun _ => ?_⟩
    refine sp_Mv_arrive hM hw hi (hbm.2 _ hi) (Vx_v hw hi (by omega)) hl (fun m2 f2 l2 a2 => ?_)
    have e8 : m2 108 = m 108 := f2 108 (by omega)
    have hm2 : PX (i + 1) mu m2 := ⟨fun q hq => (f2 q (by omega)).trans (hm.1 q hq), fun q hq => by rw [e8]; exact hm.2 q hq⟩
    have hb2 := hbm.mf hw hM f2
    have e14 : m2 (14 + 8 * (i + 1)) = mu (14 + 8 * (i + 1)) := hm2.1 _ (by omega)
    have e15 : m2 (15 + 8 * (i + 1)) = mu (15 + 8 * (i + 1)) := hm2.1 _ (by omega)
    have f12 : m2 (12 + 8 * (i + 1)) = mu (12 + 8 * (i + 1)) := hm2.1 _ (by omega)
    have w := hW k (by omega)
    have wl := WT_le t (i + 1) k
    simp only [Option.some.injEq, Sum.inl.injEq, Sum.inr.injEq, Prod.mk.injEq, and_assoc, exists_eq_left', exists_eq_left, exists_and_left, exists_and_right, exists_eq', exists_eq, forall_eq, forall_eq', true_and, and_true, exists_const, Hm_1, gF_co_2 _ _ g12, gA_wa _ _ g12, vp_in_nI (show k < 112 by omega) (show 112 < 2 ^ 31 by decide), nI_clamp (show k < 2 ^ 31 by omega), e14, w.1, n_eq0 (show WT t (i + 1) k < 2 ^ 31 by omega), gF_Se_3, gF_Se_1, gF_Ru_3, hb2.1.2.1, gC_Mv hM]
    refine ⟨fun e => skip (by unfold wtF; rw [e]; split <;> rfl) m2 hm2 l2 e8, fun e => ?_⟩
    refine sp_Mv_rule (i := i + 1) hw (by omega) hM l2 a2 ?_
    have pl := pairR_le t (i + 1) (vv t (i + 1) k) (vv t i j)
    rw [n_eq0 (by omega)]
    refine ⟨fun e2 => ?_, fun e2 => skip (by unfold wtF; rw [if_neg (fun z => e2 ((okM_1 t i j k).mp z))]) m2 hm2 l2 e8⟩
    have eW : wtF t i j k = WT t (i + 1) k := by unfold wtF; rw [if_pos ((okM_1 t i j k).mpr e2)]
    have nz : ¬ wtF t i j k = 0 := by rw [eW]; exact e
    have R2 := RS.2 nz
    have M2 := MB.2 nz
    have eQ : QT t (i + 1) k = RsT t (i + 1) k := by unfold QT; rw [if_neg e]
    simp only [Option.some.injEq, Sum.inl.injEq, Sum.inr.injEq, Prod.mk.injEq, and_assoc, exists_eq_left', exists_eq_left, exists_and_left, exists_and_right, exists_eq', exists_eq, forall_eq, forall_eq', true_and, and_true, exists_const, Hm_1, gF_Se_3, gC_Mv hM]
    refine sp_Mv_length hM a2 (Vx_v hw hi (by omega)).1 (Vx_v hw (by omega) hj).1 ?_
    simp only [Option.some.injEq, Sum.inl.injEq, Sum.inr.injEq, Prod.mk.injEq, and_assoc, exists_eq_left', exists_eq_left, exists_and_left, exists_and_right, exists_eq', exists_eq, forall_eq, forall_eq', true_and, and_true, exists_const, Hm_1, gF_co_3 _ _ g12, gA_rs _ _ g12, vp_in_nI (show k < 112 by omega) (show 112 < 2 ^ 31 by decide), nI_clamp (show k < 2 ^ 31 by omega), e15, w.2, eQ, nI_add, ← M2]
    have ns : ¬ sumTo (wtF t i j) (k + 1) = 0 := by rw [sumTo_s]; omega
    have take : bst (bM t (i + 1) (vv t i j)) (k + 1) = (bM t (i + 1) (vv t i j) k, k) → wp_Se_pickNext_122 (wn_Se_pickNext_35 Post (n + 1)) Post 1 (nI (i + 1)) (11 + 8 * (i + 1)) (nI k) (nI (bM t (i + 1) (vv t i j) k)) (Hm m2 l) := by
      intro eb
      unfold wp_Se_pickNext_122 wp_Se_pickNext_138
      simp only [Option.some.injEq, Sum.inl.injEq, Sum.inr.injEq, Prod.mk.injEq, and_assoc, exists_eq_left', exists_eq_left, exists_and_left, exists_and_right, exists_eq', exists_eq, forall_eq, forall_eq', true_and, and_true, exists_const, Hm_1, gF_Se_4, gF_co_0 _ _ g12, gA_vo _ _ g12, gA_be, ms_be, vp_in_nI (show k < 112 by omega) (show 112 < 2 ^ 31 by decide), nI_clamp (show k < 2 ^ 31 by omega), vp_in_nI g12 (show 12 < 2 ^ 31 by decide), nI_clamp (show i + 1 < 2 ^ 31 by omega), f12, hL.2 k (show k < sz t (i + 1) by omega), nI_1]
      have := ih (k + 1) (up m2 108 (i + 1) (nI (pkv (vv t (i + 1) k)))) (by omega) ⟨fun q hq => by rw [up_k (by omega)]; exact hm2.1 q hq, fun q hq => by rw [up_j hq]; exact hm2.2 q hq⟩ (l2.mf (fun q h1 h2 => up_k (by omega))) (fun _ => by rw [up_at, eb])
      rw [if_neg ns, eb] at this
      exact this
    by_cases z : sumTo (wtF t i j) k = 0
    · rw [if_pos z]
      refine ⟨fun _ => take ?_, fun q => absurd rfl q⟩
      rw [bst_s, bstM hw hi hj hR k (by omega) z, if_pos (by show bM t (i + 1) (vv t i j) k < FARN; rw [M2]; unfold FARN; omega)]
    · rw [if_neg z]
      have mb : bM t (i + 1) (vv t i j) k < 2 ^ 31 := by rw [M2]; omega
      refine ⟨fun q => absurd q (nI_m1 (by omega)), fun _ => ?_⟩
      rw [nI_leI (show (bst (bM t (i + 1) (vv t i j)) k).1 < 2 ^ 31 by omega) mb]
      refine ⟨fun c => ?_, fun c => take (by rw [bst_s, if_pos (by omega)])⟩
      have eb : bst (bM t (i + 1) (vv t i j)) (k + 1) = bst (bM t (i + 1) (vv t i j)) k := by rw [bst_s, if_neg (by omega)]
      have := ih (k + 1) m2 (by omega) hm2 l2 (fun _ => by rw [eb, e8]; exact hd z)
      rw [if_neg ns, eb] at this
      exact this
set_option maxHeartbeats 1000000 in
theorem sp_Se_pickNext {Post : MH → Prop} {t : SG} {mu : Nat → Nat → Int32} {l : Nat → Int64} (hb : CB t mu) (hw : WF t) {i : Nat} (hi : i + 1 < sn t) (hG : Gd t i) (hL : Lst t (i + 1) mu) (hW : Wgd t (i + 1) mu) (h8 : mu 108 i = nI (pkv (vv t i (ch t i)))) (hp : ∀ m2, PX (i + 1) mu m2 → m2 108 (i + 1) = nI (pkv (vv t (i + 1) (ch t (i + 1)))) → Post (Hm m2 l)) : wp_Se_pickNext Post 1 (nI (i + 1)) (Hm mu l) := by
  have hn := hw.n
  have h12 : i < 12 := by omega
  have g12 : i + 1 < 12 := by omega
  have hM : IsM 104 := Or.inl rfl
  have s1 : nI (i + 1) - 1 = nI i := n_sub1 (by omega)
  unfold wp_Se_pickNext
  simp only [Option.some.injEq, Sum.inl.injEq, Sum.inr.injEq, Prod.mk.injEq, and_assoc, exists_eq_left', exists_eq_left, exists_and_left, exists_and_right, exists_eq', exists_eq, forall_eq, forall_eq', true_and, and_true, exists_const, Hm_1, gF_Se_2, gF_Se_3, gF_Se_0, gF_Se_4, gR_CO, gR_CA, s1, vp_in_nI g12 (show 12 < 2 ^ 31 by decide), vp_in_nI h12 (show 12 < 2 ^ 31 by decide), nI_clamp (show i < 2 ^ 31 by omega), nI_clamp (show i + 1 < 2 ^ 31 by omega), if_pos h12, if_pos g12, gA_be, h8, gC_Mv hM]
  refine sp_Mv_leave hM hw (by omega) (hb.2 i (by omega)) (Vx_v hw (by omega) hG.1) (fun m1 f1 l1 => ?_)
  have nz : ¬ sumTo (wtF t i (ch t i)) (sz t (i + 1)) = 0 := by
    intro e
    have := WT_s hi hG.1 hG.2.1
    rw [e] at this
    have b := (rb2 hw (show i < sn t by omega) hG.1).1.mp hG.2.2
    exact (WT_0 t i (ch t i)).mpr ⟨hG.2.1, b⟩ this.symm
  exact ⟨_, pn35 hb hw hi hG.1 hG.2.1 hL hW nz hp (sz t (i + 1)) 0 m1 (by omega) ⟨fun q hq => f1 q (by omega), fun q _ => by rw [f1 108 (by omega)]⟩ l1 (fun e => absurd rfl e)⟩
def SF (mu m : Nat → Nat → Int32) : Prop := ∀ k, ¬ k = 1 → ¬ (11 ≤ k ∧ k < 104 ∧ 3 ≤ k % 8) → ¬ (104 ≤ k ∧ k ≤ 108) → m k = mu k
theorem SF.tr {a b c : Nat → Nat → Int32} (h : SF a b) (g : SF b c) : SF a c := fun k h1 h2 h3 => (g k h1 h2 h3).trans (h k h1 h2 h3)
theorem SF.cb {t : SG} {mu m : Nat → Nat → Int32} (h : SF mu m) (hw : WF t) (hb : CB t mu) : CB t m :=
  hb.of hw (h 0 (by omega) (by omega) (by omega)) (fun k _ _ => h k (by omega) (by omega) (by omega)) (fun j hj => ⟨h _ (by omega) (by omega) (by omega), h _ (by omega) (by omega) (by omega), h _ (by omega) (by omega) (by omega)⟩)
def Stt (t : SG) (m : Nat → Nat → Int32) : Prop := m 1 5 = iI (failT t (sn t)) ∧ m 1 7 = nI (cap (sumTo (Rw t (sn t - 1)) (sz t (sn t - 1)))) ∧ (failT t (sn t) < 0 → m 1 6 = nI (bst (b0 t) (sz t 0)).1 ∧ ∀ i, i < sn t → m 108 i = nI (pkv (vv t i (ch t i))))
def RC (t : SG) (m : Nat → Nat → Int32) : Prop := CB t m ∧ (∀ i, i < sn t → Col t i m) ∧ (m 1 8 = 0 ∨ (m 1 8 = 1 ∧ Stt t m))
def Fwd (t : SG) (i : Nat) (m : Nat → Nat → Int32) : Prop := CB t m ∧ (∀ q, q < i → Rdy t q m) ∧ (∀ q, i ≤ q → q < sn t → Col t q m) ∧ m 1 8 = 1 ∧ m 1 7 = 0 ∧ m 1 5 = -1 ∧ failT t i < 0
theorem Rdy.col {t : SG} {i : Nat} {m : Nat → Nat → Int32} (h : Rdy t i m) : Col t i m := Or.inr ⟨h.2.1, h.1⟩
set_option maxHeartbeats 2000000 in
theorem st106 {Post : MH → Prop} {t : SG} {mu : Nat → Nat → Int32} {l : Nat → Int64} (hb : CB t mu) (hw : WF t) (h0 : 0 < sn t) (hf : failT t (sn t) < 0) (hr : ∀ q, q < sn t → Rdy t q mu) (hg : ∀ q, q < sn t → Wgd t q mu) (hp : ∀ m2, (∀ k, ¬ (104 ≤ k ∧ k ≤ 108) → m2 k = mu k) → (∀ q, q < sn t → m2 108 q = nI (pkv (vv t q (ch t q)))) → Post (Hm m2 l)) : ∀ d i m, i + 1 + d = sn t → (∀ k, ¬ (104 ≤ k ∧ k ≤ 108) → m k = mu k) → (∀ q, q < i + 1 → m 108 q = nI (pkv (vv t q (ch t q)))) → wn_Se_settle_106 Post (d + 1) 1 (nI (sn t)) (nI (i + 1)) (Hm m l) := by
  have hn := hw.n
  intro d
  induction d with
  | zero =>
    intro i m hd hm h8
    refine ⟨fun _ => hp m hm (fun q hq => h8 q (by omega)), fun e => absurd ((nI_leI (by omega) (by omega)).mpr (by omega)) e⟩
  | succ d ih =>
    intro i m hd hm h8
    have hbm : CB t m := hb.of hw (hm 0 (by omega)) (fun q _ _ => hm q (by omega)) (fun q hq => ⟨hm _ (by omega), hm _ (by omega), hm _ (by omega)⟩)
    refine ⟨fun e => absurd ((nI_leI (by omega) (by omega)).mp e) (by omega), fun _ => ⟨gC_Se m l, ?_⟩⟩
    refine sp_Se_pickNext hbm hw (by omega) (Gd_a hw h0 hf i (by omega)) ((hr (i + 1) (by omega)).1.k (hm _ (by omega)) (hm _ (by omega))) ((hg (i + 1) (by omega)).k (hm _ (by omega)) (hm _ (by omega))) (h8 i (by omega)) (fun m2 p2 e2 => ?_)
    rw [nI_1]
    refine ih (i + 1) m2 (by omega) (fun q hq => (p2.1 q hq).trans (hm q hq)) (fun q hq => ?_)
    by_cases e : q = i + 1
    · subst e; exact e2
    · rw [p2.2 q e]; exact h8 q (by omega)
set_option maxHeartbeats 2000000 in
theorem st73 {Post : MH → Prop} {t : SG} {mu : Nat → Nat → Int32} {l : Nat → Int64} (hw : WF t) (h0 : 0 < sn t) (hF : Fwd t (sn t) mu) (hp : ∀ m2, SF mu m2 → RC t m2 → Stt t m2 → Post (Hm m2 l)) : ∀ c m, c ≤ sn t → WX mu m → (∀ q, c ≤ q → q < sn t → Wgd t q m) → wn_Se_settle_73 Post (c + 1) 1 (nI (sn t)) (iI ((c : Int) - 1)) (Hm m l) := by
  have hn := hw.n
  have hf := hF.2.2.2.2.2.2
  intro c
  induction c with
  | zero =>
    intro m hc hx hg
    refine ⟨fun _ => ⟨gC_Se m l, ?_⟩, fun e => absurd (by decide) e⟩
    have r1 := hx.rdy (by decide) (hF.2.1 0 h0)
    have e1 : m 1 = mu 1 := hx 1 (by omega) (by omega)
    refine sp_Se_pickFirst (hx.cb hw hF.1) hw h0 r1.1 (hg 0 (Nat.le_refl _) h0) (by rw [e1]; exact hF.2.2.2.2.1) (fun m2 p2 => ?_)
    have pk := p2.1.1
    have hbm : CB t m2 := (hx.cb hw hF.1).of hw (pk 0 (by omega) (by omega)) (fun q _ _ => pk q (by omega) (by omega)) (fun q hq => ⟨pk _ (by omega) (by omega), pk _ (by omega) (by omega), pk _ (by omega) (by omega)⟩)
    have hr2 : ∀ q, q < sn t → Rdy t q m2 := fun q hq => (hx.rdy (by omega) (hF.2.1 q hq)).k (pk _ (by omega) (by omega)) (pk _ (by omega) (by omega)) (pk _ (by omega) (by omega))
    have hg2 : ∀ q, q < sn t → Wgd t q m2 := fun q hq => (hg q (by omega) hq).k (pk _ (by omega) (by omega)) (pk _ (by omega) (by omega))
    have G0 := Gd_0 hw h0 hf
    have nz : ¬ sumTo (WT t 0) (sz t 0) = 0 := by
      intro e
      have := bst0 hw h0 (sz t 0) (Nat.le_refl _) e
      rw [this] at G0
      exact absurd G0.1 (Nat.lt_irrefl _)
    have z := p2.2.2 nz
    refine ⟨_, st106 hbm hw h0 hf hr2 hg2 (fun m3 f3 b3 => ?_) (sn t - 1) 0 m2 (by omega) (fun _ _ => rfl) (fun q hq => ?_)⟩
    · have e3 : m3 1 = m2 1 := f3 1 (by omega)
      have st : Stt t m3 := by
        refine ⟨?_, ?_, fun _ => ⟨?_, b3⟩⟩
        · rw [e3, p2.1.2 5 (by decide) (by decide), e1, hF.2.2.2.2.2.1]
          have := failT_rg t (sn t)
          rw [show failT t (sn t) = -1 by omega]
          rfl
        · rw [e3, p2.2.1, tot h0]
        · rw [e3, z.1]
      refine hp m3 (fun k k1 k2 k3 => ?_) ⟨?_, fun i hi => ?_, Or.inr ⟨?_, st⟩⟩ st
      · rw [f3 k k3, pk k k1 (by omega)]; exact hx k (by omega) (by omega)
      · exact hbm.of hw (f3 0 (by omega)) (fun q _ _ => f3 q (by omega)) (fun q hq => ⟨f3 _ (by omega), f3 _ (by omega), f3 _ (by omega)⟩)
      · exact ((hr2 i hi).k (f3 _ (by omega)) (f3 _ (by omega)) (f3 _ (by omega))).col
      · rw [e3, p2.1.2 8 (by decide) (by decide), e1]; exact hF.2.2.2.1
    · obtain rfl : q = 0 := by omega
      exact z.2
  | succ c ih =>
    intro m hc hx hg
    have e1 : iI (((c + 1 : Nat) : Int) - 1) = nI c := by rw [iI_n]; congr 1; omega
    have e2 : nI c + -1 = iI ((c : Int) - 1) := by rw [iI_n, show (-1 : Int32) = iI (-1) from rfl, iI_add]; rfl
    have e3 : nI (sn t) - 1 = nI (sn t - 1) := n_sub1 (by omega)
    rw [e1]
    show wb_Se_settle_73 _ _ _ _ _ _
    unfold wb_Se_settle_73 wp_Se_settle_91
    have hbm := hx.cb hw hF.1
    have hrm : ∀ q, q < sn t → Rdy t q m := fun q hq => hx.rdy (by omega) (hF.2.1 q hq)
    have nx : ∀ la : Int32, (la = 0 ∨ la = 1) → (la = 0 ↔ c + 1 < sn t) → wp_Se_weigh (fun h91 => wn_Se_settle_73 Post (c + 1) 1 (nI (sn t)) (nI c + -1) h91) 1 (nI c) la (Hm m l) := by
      intro la h1 h2
      refine sp_Se_weigh hbm hw hrm (by omega) h1 h2 (fun q q1 q2 => hg q (by omega) q2) (fun m2 x2 g2 => ?_)
      rw [e2]
      exact ih m2 (by omega) (hx.tr x2) g2
    rw [e3, nI_eq (by omega) (by omega)]
    refine ⟨fun e => ?_, fun _ => ⟨fun e => ⟨gC_Se m l, nx 0 (Or.inl rfl) ⟨fun _ => by omega, fun _ => rfl⟩⟩, fun e => ⟨gC_Se m l, nx 1 (Or.inr rfl) ⟨fun q => absurd q (by decide), fun q => by omega⟩⟩⟩⟩
    rw [i_lt, nI_t (by omega), show ((0 : Int32)).toInt = 0 from rfl] at e
    omega
set_option maxHeartbeats 2000000 in
theorem st30 {Post : MH → Prop} {t : SG} {mu : Nat → Nat → Int32} {l : Nat → Int64} (hw : WF t) (h0 : 0 < sn t) (hp : ∀ m2, SF mu m2 → RC t m2 → Stt t m2 → Post (Hm m2 l)) : ∀ d i m, i + d = sn t → SF mu m → Fwd t i m → wn_Se_settle_30 Post (d + 1) 1 (nI (sn t)) (nI i) (Hm m l) := by
  have hn := hw.n
  intro d
  induction d with
  | zero =>
    intro i m hd hs hF
    obtain rfl : i = sn t := by omega
    refine ⟨fun _ z hz => ?_, fun e => absurd ((nI_leI (by omega) (by omega)).mpr (Nat.le_refl _)) e⟩
    subst hz
    have e3 : nI (sn t) - 1 = iI ((sn t : Int) - 1) := by rw [iI_n, show (1 : Int32) = iI 1 from rfl, iI_sub]
    rw [e3]
    exact ⟨_, st73 hw h0 hF (fun m2 s2 r2 t2 => hp m2 (hs.tr s2) r2 t2) (sn t) m (Nat.le_refl _) (fun _ _ _ => rfl) (fun q q1 q2 => by omega)⟩
  | succ d ih =>
    intro i m hd hs hF
    have hi : i < sn t := by omega
    have h12 : i < 12 := by omega
    refine ⟨fun e => absurd ((nI_leI (by omega) (by omega)).mp e) (by omega), fun _ => ⟨gC_Se m l, ?_⟩⟩
    refine sp_Se_listed hF.1 hw hi (hF.2.2.1 i (Nat.le_refl _) hi) (fun m1 f1 l1 g1 => ⟨gC_Se m1 l, ?_⟩)
    have hb1 : CB t m1 := hF.1.of hw (f1 0 (by omega) (by omega)) (fun q _ _ => f1 q (by omega) (by omega)) (fun q hq => ⟨f1 _ (by omega) (by omega), f1 _ (by omega) (by omega), f1 _ (by omega) (by omega)⟩)
    have hr1 : ∀ q, q < i → Rdy t q m1 := fun q hq => (hF.2.1 q hq).k (f1 _ (by omega) (by omega)) (f1 _ (by omega) (by omega)) (f1 _ (by omega) (by omega))
    refine sp_Se_reach hb1 hw hi l1 (fun q => ⟨(hr1 (i - 1) (by omega)).1, (hr1 (i - 1) (by omega)).2.2⟩) (fun m2 x2 r2 => ?_)
    have l2 : Lst t i m2 := l1.k (x2 _ (by omega) (by omega)) (x2 _ (by omega) (by omega))
    have g2 : m2 (11 + 8 * i) 5 = 1 := by rw [x2 _ (by omega) (by omega)]; exact g1
    have hb2 : CB t m2 := hb1.of hw (x2 0 (by omega) (by omega)) (fun q _ _ => x2 q (by omega) (by omega)) (fun q hq => ⟨x2 _ (by omega) (by omega), x2 _ (by omega) (by omega), x2 _ (by omega) (by omega)⟩)
    have ky : ∀ k, ¬ (11 ≤ k ∧ k < 104 ∧ 3 ≤ k % 8) → ¬ (104 ≤ k ∧ k ≤ 108) → m2 k = m k := fun k q1 q2 => (x2 k (by omega) (by omega)).trans (f1 k (by omega) (by omega))
    have e1 : m2 1 = m 1 := ky 1 (by omega) (by omega)
    have hr2 : ∀ q, q < i + 1 → Rdy t q m2 := by
      intro q hq
      by_cases e : q = i
      · subst e; exact ⟨l2, g2, r2⟩
      · exact (hr1 q (by omega)).k (x2 _ (by omega) (by omega)) (x2 _ (by omega) (by omega)) (x2 _ (by omega) (by omega))
    have hc2 : ∀ q, i + 1 ≤ q → q < sn t → Col t q m2 := fun q q1 q2 => (hF.2.2.1 q (by omega) q2).k ((x2 _ (by omega) (by omega)).trans (f1 _ (by omega) (by omega))) ((x2 _ (by omega) (by omega)).trans (f1 _ (by omega) (by omega)))
    have hs2 : SF mu m2 := hs.tr (fun k q1 q2 q3 => ky k q2 q3)
    simp only [Option.some.injEq, Sum.inl.injEq, Sum.inr.injEq, Prod.mk.injEq, and_assoc, exists_eq_left', exists_eq_left, exists_and_left, exists_and_right, exists_eq', exists_eq, forall_eq, forall_eq', true_and, and_true, exists_const, Hm_1, gF_Se_2, gR_CO, vp_in_nI h12 (show 12 < 2 ^ 31 by decide), nI_clamp (show i < 2 ^ 31 by omega), if_pos h12, gC_co _ _ h12]
    refine sp_Co_reachedAtAll hw hi l2 r2 ?_
    have ff := hF.2.2.2.2.2.2
    have fs := failT_s t i
    rw [if_pos ff] at fs
    rw [bI_0]
    refine ⟨fun e => ?_, fun e => ?_⟩
    · have e : some1 t i = true := by simpa using e
      rw [e, if_pos rfl] at fs
      rw [nI_1]
      exact ih (i + 1) m2 (by omega) hs2 ⟨hb2, hr2, hc2, by rw [e1]; exact hF.2.2.2.1, by rw [e1]; exact hF.2.2.2.2.1, by rw [e1]; exact hF.2.2.2.2.2.1, by omega⟩
    · rw [e] at fs
      have fs : failT t (i + 1) = i := by simpa using fs
      have fz : failT t (sn t) = i := by
        rw [show sn t = (i + 1) + d by omega, fail_stay (by omega), fs]
      simp only [Option.some.injEq, Sum.inl.injEq, Sum.inr.injEq, Prod.mk.injEq, and_assoc, exists_eq_left', exists_eq_left, exists_and_left, exists_and_right, exists_eq', exists_eq, forall_eq, forall_eq', true_and, and_true, exists_const, Hm_1, gF_Se_5, fs_Se_5]
      have st : Stt t (up m2 1 5 (nI i)) := by
        refine ⟨?_, ?_, fun q => by omega⟩
        · rw [up_at, fz, iI_n]
        · rw [up_j (by decide), e1, hF.2.2.2.2.1, fail_many h0 (by omega)]; rfl
      refine hp _ (fun k q1 q2 q3 => by rw [up_k q1]; exact hs2 k q1 q2 q3) ⟨?_, fun q hq => ?_, Or.inr ⟨?_, st⟩⟩ st
      · exact hb2.of hw (up_k (by omega)) (fun q _ _ => up_k (by omega)) (fun q hq => ⟨up_k (by omega), up_k (by omega), up_k (by omega)⟩)
      · by_cases c : q < i + 1
        · exact (hr2 q c).col.k (up_k (by omega)) (up_k (by omega))
        · exact (hc2 q (by omega) hq).k (up_k (by omega)) (up_k (by omega))
      · rw [up_j (by decide), e1]; exact hF.2.2.2.1
set_option maxHeartbeats 1000000 in
theorem sp_Se_settle {Post : MH → Prop} {t : SG} {mu : Nat → Nat → Int32} {l : Nat → Int64} (hw : WF t) (h0 : 0 < sn t) (hr : RC t mu) (hp : ∀ m2, SF mu m2 → RC t m2 → Stt t m2 → Post (Hm m2 l)) : wp_Se_settle Post 1 (nI (sn t)) (Hm mu l) := by
  unfold wp_Se_settle
  simp only [Option.some.injEq, Sum.inl.injEq, Sum.inr.injEq, Prod.mk.injEq, and_assoc, exists_eq_left', exists_eq_left, exists_and_left, exists_and_right, exists_eq', exists_eq, forall_eq, forall_eq', true_and, and_true, exists_const, Hm_1, gF_Se_8, fs_Se_8, gF_Se_7, fs_Se_7, gF_Se_6, fs_Se_6, gF_Se_5, fs_Se_5]
  refine ⟨fun e => ?_, fun e => ?_⟩
  · have ky : ∀ k, ¬ k = 1 → up (up (up (up mu 1 8 1) 1 7 0) 1 6 0) 1 5 (-1) k = mu k := fun k hk => by rw [up_k hk, up_k hk, up_k hk, up_k hk]
    refine ⟨_, st30 hw h0 hp (sn t) 0 _ (by omega) (fun k q1 q2 q3 => ky k q1) ⟨?_, fun q hq => absurd hq (Nat.not_lt_zero _), fun q q1 q2 => (hr.2.1 q q2).k (ky _ (by omega)) (ky _ (by omega)), ?_, ?_, ?_, show (-1 : Int) < 0 by decide⟩⟩
    · exact hr.1.of hw (ky _ (by omega)) (fun q _ _ => ky _ (by omega)) (fun q hq => ⟨ky _ (by omega), ky _ (by omega), ky _ (by omega)⟩)
    · rw [up_j (by decide), up_j (by decide), up_j (by decide), up_at]
    · rw [up_j (by decide), up_j (by decide), up_at]
    · rw [up_at]
  · rcases hr.2.2 with h | h
    · exact absurd h e
    · exact hp mu (fun _ _ _ _ => rfl) hr h.2
