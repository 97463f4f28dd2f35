theorem CB.of {t : SG} {mu m : Nat → Nat → Int32} (h : CB t mu) (hw : WF t) (e0 : m 0 = mu 0) (e3 : ∀ k, 3 ≤ k → k ≤ 6 → m k = mu k) (ec : ∀ i, i < 12 → m (8 + 8 * i) = mu (8 + 8 * i) ∧ m (9 + 8 * i) = mu (9 + 8 * i) ∧ m (10 + 8 * i) = mu (10 + 8 * i)) : CB t m := by
  have h12 := hw.n
  unfold CB CG CC CK CT CX at *
  rw [e0, e3 3 (by decide) (by decide), e3 4 (by decide) (by decide), e3 5 (by decide) (by decide), e3 6 (by decide) (by decide)]
  refine ⟨h.1, fun i hi => ?_⟩
  have q := ec i (by omega)
  rw [q.1, q.2.1, q.2.2]
  exact h.2 i hi
theorem CB.mf {t : SG} {mu m : Nat → Nat → Int32} (h : CB t mu) (hw : WF t) {M : Nat} (hM : IsM M) (e : MF M mu m) : CB t m := by
  have := hM.ge
  exact h.of hw (e 0 (by omega)) (fun k _ _ => e k (by omega)) (fun i hi => ⟨e _ (by omega), e _ (by omega), e _ (by omega)⟩)
theorem sp_Br_hasChord (Post : Int32 → MH → Prop) {t : SG} {mu : Nat → Nat → Int32} (hg : CG t mu) (hw : WF t) (x : Int32) (l : Nat → Int64) : wp_Br_hasChord Post 0 x (Hm mu l) ↔ Post (bI (hasC t x)) (Hm mu l) := by
  have h12 := hw.n
  unfold wp_Br_hasChord
  simp only [Option.some.injEq, Sum.inl.injEq, Sum.inr.injEq, Prod.mk.injEq, and_assoc, exists_eq_left', exists_eq_left, exists_and_left, exists_and_right, exists_eq', exists_eq, forall_eq, forall_eq', true_and, and_true, exists_const, Hm_1, gF_Br_4, hg.1, i_lt, i_le, nI_t (show sn t < 2 ^ 31 by omega), show ((0 : Int32)).toInt = 0 from rfl, pf1]
  refine iff_of_eq (congrArg (fun z => Post z (Hm mu l)) ?_)
  unfold hasC bI
  by_cases e1 : x.toInt < 0
  · have : ¬ (0 ≤ x.toInt ∧ x.toInt < sn t) := by omega
    simp [e1, this]
  · by_cases e2 : (sn t : Int) ≤ x.toInt
    · have : ¬ (0 ≤ x.toInt ∧ x.toInt < sn t) := by omega
      simp [e1, e2, this]
    · have : (0 ≤ x.toInt ∧ x.toInt < sn t) := by omega
      simp [e1, e2, this]
theorem nw4 {Post : Int32 → MH → Prop} {t : SG} {mu : Nat → Nat → Int32} {i : Nat} (h12 : i < 12) (hc : mu (8 + 8 * i) 3 = mk8 (isW t i)) {x : Int32} {l : Nat → Int64} : ∀ j q n, q + j = 8 → n ≤ q → Post (match nth t i x.toInt j q n with | some f => nI f | none => 2) (Hm mu l) → wn_Ch_nthWorked_4 Post (j + 1) (8 + 8 * i) x (nI n) (nI (q + 2)) (Hm mu l) := by
  intro j
  induction j with
  | zero =>
    intro q n hq hn hp
    obtain rfl : q = 8 := by omega
    exact ⟨fun _ => hp, fun e => absurd (by decide) e⟩
  | succ j ih =>
    intro q n hq hn hp
    show wb_Ch_nthWorked_4 _ _ _ _ _ _ _
    unfold wb_Ch_nthWorked_4 wp_Ch_nthWorked_31
    simp only [Option.some.injEq, Sum.inl.injEq, Sum.inr.injEq, Prod.mk.injEq, and_assoc, exists_eq_left', exists_eq_left, exists_and_left, exists_and_right, exists_eq', exists_eq, forall_eq, forall_eq', true_and, and_true, exists_const, Hm_1, gF_ch_3 _ _ h12, hc, sp_Ch_has _ (isW t i) _ (q + 2) (by omega) (by omega), bI_0, show (9 : Int32) = nI 9 from rfl, nI_ltI (show 9 < 2 ^ 31 by decide) (show q + 2 < 2 ^ 31 by omega), nI_1, i_eq (nI n) x, nI_t (show n < 2 ^ 31 by omega)]
    unfold nth at hp
    refine ⟨fun e => absurd e (by omega), fun _ => ⟨fun e => ?_, fun e => ⟨fun c => ?_, fun c => ?_⟩⟩⟩
    · rw [e] at hp
      exact ih (q + 1) n (by omega) (by omega) hp
    · rw [if_pos (by simpa using e), if_neg c] at hp
      exact ih (q + 1) (n + 1) (by omega) (by omega) hp
    · rw [if_pos (by simpa using e), if_pos c] at hp
      exact hp
theorem sp_Ch_nthWorked {Post : Int32 → MH → Prop} {t : SG} {mu : Nat → Nat → Int32} {i : Nat} (h12 : i < 12) (hc : mu (8 + 8 * i) 3 = mk8 (isW t i)) {x : Int32} {l : Nat → Int64} (hp : Post (match nth t i x.toInt 8 0 0 with | some f => nI f | none => 2) (Hm mu l)) : wp_Ch_nthWorked Post (8 + 8 * i) x (Hm mu l) := ⟨9, nw4 h12 hc 8 0 0 rfl (Nat.le_refl _) hp⟩
def wN (t : SG) (i q j : Nat) : Nat := sumTo (fun d => oN (isW t i (q + d + 2))) j
theorem wN_s (t : SG) (i q j : Nat) : wN t i q (j + 1) = oN (isW t i (q + 2)) + wN t i (q + 1) j := by
  unfold wN
  rw [sumTo_f]
  congr 1
  exact sumTo_e (fun k _ => by rw [show q + (k + 1) + 2 = q + 1 + k + 2 by omega])
theorem nth_sm (t : SG) (i : Nat) (k : Int) : ∀ j q n : Nat, (n : Int) ≤ k → k < n + wN t i q j → ∃ f, nth t i k j q n = some f ∧ q + 2 ≤ f ∧ f < q + 2 + j := by
  intro j
  induction j with
  | zero => intro q n h1 h2; simp [wN, sumTo] at h2; omega
  | succ j ih =>
    intro q n h1 h2
    rw [wN_s] at h2
    unfold nth
    cases e : isW t i (q + 2)
    · rw [e] at h2
      obtain ⟨f, hf, h3, h4⟩ := ih (q + 1) n h1 (by simpa [oN] using h2)
      exact ⟨f, by simpa using hf, by omega, by omega⟩
    · rw [e] at h2
      by_cases c : (n : Int) = k
      · exact ⟨q + 2, by simp [c], by omega, by omega⟩
      · obtain ⟨f, hf, h3, h4⟩ := ih (q + 1) (n + 1) (by omega) (by simp [oN] at h2; omega)
        exact ⟨f, by simpa [c] using hf, by omega, by omega⟩
theorem nth_no (t : SG) (i : Nat) (k : Int) : ∀ j q n : Nat, (k < n ∨ n + wN t i q j ≤ k) → nth t i k j q n = none := by
  intro j
  induction j with
  | zero => intro q n h; rfl
  | succ j ih =>
    intro q n h
    rw [wN_s] at h
    unfold nth
    cases e : isW t i (q + 2)
    · rw [e] at h
      simpa using ih (q + 1) n (by simpa [oN] using h)
    · rw [e] at h
      have c : ¬ (n : Int) = k := by simp [oN] at h; omega
      simpa [c] using ih (q + 1) (n + 1) (by simp [oN] at h; omega)
theorem cnt8_W (t : SG) (i : Nat) : cnt8 (isW t i) = cntW t i 8 := by
  unfold cnt8
  have s : ∀ k, cntW t i (k + 1) = if isW t i (k + 2) then cntW t i k + 1 else cntW t i k := fun _ => rfl
  have z : cntW t i 0 = 0 := rfl
  rw [s 7, s 6, s 5, s 4, s 3, s 2, s 1, s 0, z]
  simp only [Nat.reduceAdd]
  cases isW t i 2 <;> cases isW t i 3 <;> cases isW t i 4 <;> cases isW t i 5 <;> cases isW t i 6 <;> cases isW t i 7 <;> cases isW t i 8 <;> cases isW t i 9 <;> rfl
theorem wN_8 (t : SG) (i : Nat) : wN t i 0 8 = cntW t i 8 := by
  rw [← cnt8_W]
  unfold wN cnt8 oN
  simp only [sumTo, Nat.zero_add]
set_option maxHeartbeats 1000000 in
theorem sp_Ch_about {Post : Int32 → MH → Prop} {t : SG} {mu : Nat → Nat → Int32} {i f w : Nat} (hw : WF t) (hi : i < sn t) (hc : CK t i mu) (hc3 : mu (8 + 8 * i) 3 = mk8 (isW t i)) (hf2 : 2 ≤ f) (hf : f < 10) (hw6 : w ≤ 6) {l : Nat → Int64} (hp : Post (aboutW t i f w) (Hm mu l)) : wp_Ch_about Post (8 + 8 * i) (nI f) (nI w) (iI (sF t)) (Hm mu l) := by
  have h12 : i < 12 := by have := hw.n; omega
  unfold wp_Ch_about
  simp only [Option.some.injEq, Sum.inl.injEq, Sum.inr.injEq, Prod.mk.injEq, and_assoc, exists_eq_left', exists_eq_left, exists_and_left, exists_and_right, exists_eq', exists_eq, forall_eq, forall_eq', true_and, and_true, exists_const, Hm_1, gF_ch_4 _ _ h12, gF_ch_2 _ _ h12, gC_ch _ _ h12, gA_sg _ _ h12, vp_in_nI hf (show 10 < 2 ^ 31 by decide), nI_clamp (show f < 2 ^ 31 by omega), hc.2.2.1, hc.2.2.2 f hf, show (0 : Int32) = nI 0 from rfl, show (1 : Int32) = nI 1 from rfl, show (2 : Int32) = nI 2 from rfl, show (3 : Int32) = nI 3 from rfl, show (4 : Int32) = nI 4 from rfl, show (5 : Int32) = nI 5 from rfl, nI_eq (show w < 2 ^ 31 by omega) (show 0 < 2 ^ 31 by decide), nI_eq (show w < 2 ^ 31 by omega) (show 1 < 2 ^ 31 by decide), nI_eq (show w < 2 ^ 31 by omega) (show 2 < 2 ^ 31 by decide), nI_eq (show w < 2 ^ 31 by omega) (show 3 < 2 ^ 31 by decide), nI_eq (show w < 2 ^ 31 by omega) (show 4 < 2 ^ 31 by decide), nI_eq (show w < 2 ^ 31 by omega) (show 5 < 2 ^ 31 by decide), sp_Ch_toneLetter _ h12 (hw.lt hi) hc.1 (show 1 ≤ f by omega) hf, sp_Ch_has _ (tl t i) _ f hf2 hf, sp_Ch_kind _ h12 hc3 hf]
  unfold aboutW at hp
  refine ⟨fun e => ?_, fun e => ?_, fun e => ?_, fun e => ?_, fun e => ?_, fun e => ?_, fun e0 e1 e2 e3 e4 e5 => ?_⟩
  · rw [if_pos e] at hp; exact hp
  · subst e; exact hp
  · subst e; exact hp
  · subst e; exact sp_Ch_toneAlter hw hi hc (by omega) hf hp
  · subst e; exact sp_Ch_toneClass hw hi hc (by omega) hf hp
  · subst e
    replace hp : Post (bI (tl t i f)) (Hm mu l) := hp
    rw [show nI 0 = (0 : Int32) from rfl, bI_0]
    cases q : tl t i f
    · rw [q] at hp; exact ⟨fun _ => hp, fun z => absurd rfl z⟩
    · rw [q] at hp; exact ⟨fun z => (by cases z), fun _ => hp⟩
  · rw [if_neg e0, if_neg e1, if_neg e2, if_neg e3, if_neg e4, if_neg e5] at hp
    unfold knd
    by_cases e7 : f = 7
    · subst e7
      have : isS t i 7 = false := rfl
      rw [this] at hp; exact hp
    · rw [if_neg e7] at hp ⊢
      cases q : isS t i f
      · rw [q] at hp; exact hp
      · rw [q] at hp; exact hp
theorem hnd_s {t : SG} {i : Nat} {a : Nat × Nat × Nat} (h : ssg t i = some a) : hnd (ssg t i) = nI (pkv (xv t i a)) := by rw [h]; rfl
theorem Vx_s {t : SG} (hw : WF t) {i : Nat} (hi : i < sn t) {a : Nat × Nat × Nat} (h : ssg t i = some a) : Vx t i (xv t i a) := by
  refine ⟨fun v hv => ?_, rfl⟩
  obtain ⟨a, b, c⟩ := a
  exact xv_rg hw hi h v (by omega)
theorem hnd_m {t : SG} (hw : WF t) {i : Nat} (hi : i < sn t) : hnd (ssg t i) = -1 ↔ ssg t i = none := by
  cases e : ssg t i with
  | none => simp [hnd]
  | some a =>
    have h := Vx_s hw hi e
    have h0 := h.1 0 (by decide); have h1 := h.1 1 (by decide); have h2 := h.1 2 (by decide)
    rw [← e, hnd_s e, e]
    have : pkv (xv t i a) < 2 ^ 30 := by unfold pkv pkN; omega
    rw [i_eq, nI_t (by omega), show ((-1 : Int32)).toInt = -1 from rfl]
    exact ⟨fun q => by omega, fun q => by cases q⟩
set_option maxHeartbeats 1000000 in
theorem sp_Br_moveTo {Post : Nat → MH → Prop} {t : SG} {mu : Nat → Nat → Int32} (hb : CB t mu) (hw : WF t) {i : Nat} (hi : i < sn t) (h0 : 0 < i) {a b : Nat × Nat × Nat} (ha : ssg t (i - 1) = some a) (hB : ssg t i = some b) {l : Nat → Int64} (hp : ∀ m2, MF 109 mu m2 → Lv t (i - 1) (xv t (i - 1) a) 109 m2 → Ar t i (xv t i b) (xv t (i - 1) a) 109 m2 → Post 109 (Hm m2 l)) : wp_Br_moveTo Post 0 (nI i) (Hm mu l) := by
  have h12 : i < 12 := by have := hw.n; omega
  have g12 : i - 1 < 12 := by omega
  have hM : IsM 109 := Or.inr rfl
  unfold wp_Br_moveTo
  simp only [Option.some.injEq, Sum.inl.injEq, Sum.inr.injEq, Prod.mk.injEq, and_assoc, exists_eq_left', exists_eq_left, exists_and_left, exists_and_right, exists_eq', exists_eq, forall_eq, forall_eq', true_and, and_true, exists_const, Hm_1, gF_Br_3, gF_Br_1, gR_CA, n_sub1 (show 1 ≤ i by omega), vp_in_nI h12 (show 12 < 2 ^ 31 by decide), vp_in_nI g12 (show 12 < 2 ^ 31 by decide), nI_clamp (show i < 2 ^ 31 by omega), nI_clamp (show i - 1 < 2 ^ 31 by omega), if_pos h12, if_pos g12, gF_ch_6 _ _ g12, (hb.2 (i - 1) (by omega)).2.2.1, hnd_s ha, gC_Mv hM]
  refine sp_Mv_leave hM hw (by omega) (hb.2 _ (by omega)) (Vx_s hw (by omega) ha) (fun m1 f1 l1 => ?_)
  have hb1 := hb.mf hw hM f1
  simp only [Option.some.injEq, Sum.inl.injEq, Sum.inr.injEq, Prod.mk.injEq, and_assoc, exists_eq_left', exists_eq_left, exists_and_left, exists_and_right, exists_eq', exists_eq, forall_eq, forall_eq', true_and, and_true, exists_const, Hm_1, gF_Br_3, gF_Br_1, gR_CA, vp_in_nI h12 (show 12 < 2 ^ 31 by decide), nI_clamp (show i < 2 ^ 31 by omega), if_pos h12, gF_ch_6 _ _ h12, (hb1.2 i hi).2.2.1, hnd_s hB, gC_Mv hM]
  refine sp_Mv_arrive hM hw hi (hb1.2 i hi) (Vx_s hw hi hB) l1 (fun m2 f2 l2 a2 => ?_)
  simp only [Option.some.injEq, Sum.inl.injEq, Sum.inr.injEq, Prod.mk.injEq, and_assoc, exists_eq_left', exists_eq_left, exists_and_left, exists_and_right, exists_eq', exists_eq, forall_eq, forall_eq', true_and, and_true, exists_const, Hm_1, gF_Br_3]
  exact hp m2 (f1.tr f2) l2 a2
set_option maxHeartbeats 1000000 in
theorem sp_Br_faultAt {Post : Int32 → MH → Prop} {t : SG} {mu : Nat → Nat → Int32} (hb : CB t mu) (hw : WF t) {i : Nat} (hi : i < sn t) {b : Nat × Nat × Nat} (hB : ssg t i = some b) {l : Nat → Int64} (hp : ∀ m2, MF 109 mu m2 → Post (nI (faultN t i)) (Hm m2 l)) : wp_Br_faultAt Post 0 (nI i) (Hm mu l) := by
  have h12 : i < 12 := by have := hw.n; omega
  have hM : IsM 109 := Or.inr rfl
  have vx := Vx_s hw hi hB
  have hal := alone_le t i b.1 b.2.1 b.2.2
  have p0 := hp mu (fun _ _ => rfl)
  unfold faultN at hp p0
  simp only [hB] at hp p0
  unfold wp_Br_faultAt
  simp only [Option.some.injEq, Sum.inl.injEq, Sum.inr.injEq, Prod.mk.injEq, and_assoc, exists_eq_left', exists_eq_left, exists_and_left, exists_and_right, exists_eq', exists_eq, forall_eq, forall_eq', true_and, and_true, exists_const, Hm_1, gF_Br_2, gF_Br_1, gR_CA, vp_in_nI h12 (show 12 < 2 ^ 31 by decide), nI_clamp (show i < 2 ^ 31 by omega), if_pos h12, gF_ch_6 _ _ h12, (hb.2 i hi).2.2.1, hnd_s hB, gC_Ru]
  refine sp_Ru_ofVoicing hb hw hi vx.1 ?_
  rw [show alone t i (xv t i b 0) (xv t i b 1) (xv t i b 2) = alone t i b.1 b.2.1 b.2.2 from rfl, n_eq0 (by omega)]
  refine ⟨fun e => ?_, fun e => by rw [if_neg e] at p0; exact p0⟩
  rw [if_pos e] at hp p0
  rw [n_eq0 (show i < 2 ^ 31 by omega)]
  refine ⟨fun e0 => ?_, fun e0 => ?_⟩
  · rw [if_neg e0] at hp p0
    have g12 : i - 1 < 12 := by omega
    simp only [Option.some.injEq, Sum.inl.injEq, Sum.inr.injEq, Prod.mk.injEq, and_assoc, exists_eq_left', exists_eq_left, exists_and_left, exists_and_right, exists_eq', exists_eq, forall_eq, forall_eq', true_and, and_true, exists_const, Hm_1, gF_Br_1, gR_CA, n_sub1 (show 1 ≤ i by omega), vp_in_nI g12 (show 12 < 2 ^ 31 by decide), nI_clamp (show i - 1 < 2 ^ 31 by omega), if_pos g12, gF_ch_6 _ _ g12, (hb.2 (i - 1) (by omega)).2.2.1, hnd_m hw (show i - 1 < sn t by omega), gC_Br]
    refine ⟨fun e1 => ?_, fun e1 => ?_⟩
    · obtain ⟨a, ha⟩ : ∃ a, ssg t (i - 1) = some a := by
        cases q : ssg t (i - 1) with
        | none => exact absurd q e1
        | some a => exact ⟨a, rfl⟩
      rw [ha] at hp
      refine sp_Br_moveTo hb hw hi (by omega) ha hB (fun m2 f2 l2 a2 => ?_)
      simp only [Option.some.injEq, Sum.inl.injEq, Sum.inr.injEq, Prod.mk.injEq, and_assoc, exists_eq_left', exists_eq_left, exists_and_left, exists_and_right, exists_eq', exists_eq, forall_eq, forall_eq', true_and, and_true, exists_const, Hm_1, gF_Br_2, gF_Ru_3, (hb.mf hw hM f2).1.2.1, gC_Mv hM]
      exact sp_Mv_rule hw (by omega) hM l2 a2 (hp m2 f2)
    · rw [e1] at p0; exact p0
  · subst e0
    rw [if_pos rfl] at p0
    simp only [Option.some.injEq, Sum.inl.injEq, Sum.inr.injEq, Prod.mk.injEq, and_assoc, exists_eq_left', exists_eq_left, exists_and_left, exists_and_right, exists_eq', exists_eq, forall_eq, forall_eq', true_and, and_true, exists_const, Hm_1, gF_Br_2, gF_ch_6 _ _ h12, (hb.2 0 hi).2.2.1, hnd_s hB, gC_Ru]
    exact sp_Ru_ofStart hb hw hi vx.1 p0
