def T5 (mu : Nat → Nat → Int32) (K : Nat) (w a b c : Int32) : Nat → Nat → Int32 := fun q j => if q = K then (if j = 3 then w else if j = 7 then a else if j = 9 then b else if j = 10 then c else mu q j) else mu q j
theorem T5_7 (mu : Nat → Nat → Int32) (K : Nat) (w a b c a2 : Int32) : up (T5 mu K w a b c) K 7 a2 = T5 mu K w a2 b c := by
  funext q j; rw [up_ap]; unfold T5
  by_cases e : q = K
  · by_cases e2 : j = 7
    · simp [e, e2]
    · simp [e, e2]
  · simp [e]
theorem T5_9 (mu : Nat → Nat → Int32) (K : Nat) (w a b c a2 : Int32) : up (T5 mu K w a b c) K 9 a2 = T5 mu K w a a2 c := by
  funext q j; rw [up_ap]; unfold T5
  by_cases e : q = K
  · by_cases e2 : j = 9
    · simp [e, e2]
    · simp [e, e2]
  · simp [e]
theorem T5_10 (mu : Nat → Nat → Int32) (K : Nat) (w a b c a2 : Int32) : up (T5 mu K w a b c) K 10 a2 = T5 mu K w a b a2 := by
  funext q j; rw [up_ap]; unfold T5
  by_cases e : q = K
  · by_cases e2 : j = 10
    · simp [e, e2]
    · simp [e, e2]
  · simp [e]
theorem T5_0 (mu : Nat → Nat → Int32) (K : Nat) (w : Int32) : up (up (up (up mu K 3 w) K 7 0) K 9 0) K 10 0 = T5 mu K w 0 0 0 := by
  funext q j; rw [up_ap, up_ap, up_ap, up_ap]; unfold T5
  by_cases e : q = K
  · by_cases e1 : j = 3
    · simp [e, e1]
    · by_cases e2 : j = 7
      · simp [e, e2]
      · by_cases e3 : j = 9
        · simp [e, e3]
        · by_cases e4 : j = 10 <;> simp [e, e1, e2, e3, e4]
  · simp [e]
theorem T5_r (mu : Nat → Nat → Int32) (K : Nat) (w a b c : Int32) : T5 mu K w a b c K 3 = w ∧ T5 mu K w a b c K 7 = a ∧ T5 mu K w a b c K 9 = b ∧ T5 mu K w a b c K 10 = c := by simp [T5]
theorem T5_k {mu : Nat → Nat → Int32} {K q : Nat} {w a b c : Int32} (h : ¬ q = K) : T5 mu K w a b c q = mu q := by funext j; simp [T5, h]
theorem T5_j {mu : Nat → Nat → Int32} {K j : Nat} {w a b c : Int32} (h : ¬ j = 3 ∧ ¬ j = 7 ∧ ¬ j = 9 ∧ ¬ j = 10) : T5 mu K w a b c K j = mu K j := by simp [T5, h]
def Tun (i : Nat) (mu mu2 : Nat → Nat → Int32) : Prop := ∀ k j, (¬ k = 8 + 8 * i ∨ (¬ j = 3 ∧ ¬ j = 7 ∧ ¬ j = 8 ∧ ¬ j = 9 ∧ ¬ j = 10)) → mu2 k j = mu k j
theorem Tun.k {i : Nat} {mu mu2 : Nat → Nat → Int32} (h : Tun i mu mu2) {k : Nat} (hk : ¬ k = 8 + 8 * i) : mu2 k = mu k := funext (fun j => h k j (Or.inl hk))
theorem CK_T5 {t : SG} {i : Nat} {mu : Nat → Nat → Int32} (h : CK t i mu) (w a b c : Int32) : CK t i (T5 mu (8 + 8 * i) w a b c) := by
  unfold CK at *
  rw [T5_j (by decide), T5_j (by decide), T5_j (by decide), T5_k (by omega)]
  exact h
theorem knd_1 (t : SG) (i f : Nat) : knd t i f = 1 ↔ isS t i f = true := by
  unfold knd
  by_cases e : f = 7
  · subst e; simp [isS]
  · rw [if_neg e]; cases isS t i f <;> simp
theorem knd_2 (t : SG) (i f : Nat) : knd t i f = 2 ↔ f = 7 := by
  unfold knd
  by_cases e : f = 7
  · simp [e]
  · rw [if_neg e]; cases isS t i f <;> simp [e]
theorem knd_le (t : SG) (i f : Nat) : knd t i f ≤ 2 := by unfold knd; repeat' split
                                                          all_goals omega
set_option maxHeartbeats 4000000 in
theorem sp_Ch_tune {Post : MH → Prop} {t : SG} {mu : Nat → Nat → Int32} {i : Nat} (hw : WF t) (hi : i < sn t) (hc : CK t i mu) {l : Nat → Int64} (hp : ∀ mu2, Tun i mu mu2 → CT t i mu2 → Post (Hm mu2 l)) : wp_Ch_tune Post (8 + 8 * i) (iI (sF t)) (Hm mu l) := by
  have h12 : i < 12 := by have := hw.n; omega
  have hbn := bN_rg hw hi
  unfold wp_Ch_tune
  simp only [Option.some.injEq, Sum.inl.injEq, Sum.inr.injEq, Prod.mk.injEq, and_assoc, exists_eq_left', exists_eq_left, exists_and_left, exists_and_right, exists_eq', exists_eq, forall_eq, forall_eq', true_and, and_true, exists_const, Hm_1, gF_ch_2 _ _ h12, hc.2.2.1, sp_Ch_complete, gF_ch_3 _ _ h12, fs_ch_3 _ _ h12, gF_ch_7 _ _ h12, fs_ch_7 _ _ h12, gF_ch_9 _ _ h12, fs_ch_9 _ _ h12, gF_ch_10 _ _ h12, fs_ch_10 _ _ h12, T5_0, wk_tl]
  have key : ∀ j k, k + j = 8 → wn_Ch_tune_28 Post (j + 1) (8 + 8 * i) (iI (sF t)) (nI (k + 2)) (Hm (T5 mu (8 + 8 * i) (mk8 (isW t i)) (tmI t i k) (smI t i k) (fmI t i k)) l) := by
    intro j
    induction j with
    | zero =>
      intro k hk
      obtain rfl : k = 8 := by omega
      refine ⟨fun _ => ?_, fun e => absurd (by decide) e⟩
      have r := T5_r mu (8 + 8 * i) (mk8 (isW t i)) (tmI t i 8) (smI t i 8) (fmI t i 8)
      have r1 := (CK_T5 hc (mk8 (isW t i)) (tmI t i 8) (smI t i 8) (fmI t i 8)).2.1
      simp only [Option.some.injEq, Sum.inl.injEq, Sum.inr.injEq, Prod.mk.injEq, and_assoc, exists_eq_left', exists_eq_left, exists_and_left, exists_and_right, exists_eq', exists_eq, forall_eq, forall_eq', true_and, and_true, exists_const, Hm_1, gF_ch_7 _ _ h12, gF_ch_1 _ _ h12, r.2.1, r1, sp_Br_classBit _ (show bN t i < 2 ^ 31 by omega), gF_ch_8 _ _ h12, fs_ch_8 _ _ h12]
      refine hp _ ?_ ⟨?_, ?_, ?_, ?_, ?_⟩
      · intro k j hkj
        rw [up_ap, if_neg (by omega)]
        by_cases e : k = 8 + 8 * i
        · subst e; exact T5_j (by omega)
        · rw [T5_k e]
      · rw [up_j (by decide)]; exact r.1
      · rw [up_j (by decide)]; exact r.2.1
      · rw [up_at]
      · rw [up_j (by decide)]; exact r.2.2.1
      · rw [up_j (by decide)]; exact r.2.2.2
    | succ j ih =>
      intro k hk
      have ih' := ih (k + 1) (by omega)
      have r := T5_r mu (8 + 8 * i) (mk8 (isW t i)) (tmI t i k) (smI t i k) (fmI t i k)
      have e : nI (k + 2) + 1 = nI (k + 1 + 2) := nI_1 (k + 2)
      have e9 : (9 : Int32) < nI (k + 2) ↔ 9 < k + 2 := nI_ltI (a := 9) (by decide) (by omega)
      show wb_Ch_tune_28 _ _ _ _ _ _
      unfold wb_Ch_tune_28 wp_Ch_tune_113
      simp only [e9, Option.some.injEq, Sum.inl.injEq, Sum.inr.injEq, Prod.mk.injEq, and_assoc, exists_eq_left', exists_eq_left, exists_and_left, exists_and_right, exists_eq', exists_eq, forall_eq, forall_eq', true_and, and_true, exists_const, Hm_1, gF_ch_3 _ _ h12, r.1, sp_Ch_has _ (isW t i) _ (k + 2) (show 2 ≤ k + 2 by omega) (show k + 2 < 10 by omega), bI_0, gC_ch _ _ h12, e]
      refine ⟨fun q => absurd q (by omega), fun _ => ⟨fun hW => ?_, fun hW => ?_⟩⟩
      · simp only [Bool.not_eq_false] at hW
        simp only [tmI, smI, fmI, hW, if_true, Bool.true_and] at ih'
        refine sp_Ch_toneClass hw hi (CK_T5 hc _ _ _ _) (by omega) (by omega) ?_
        have hz : (1 : Int32) <<< (nI (tcl t i (k + 2)) &&& 31) = bit (tcl t i (k + 2)) := rfl
        simp only [hz]
        have K1 : ∀ (P : Int32 → MH → Prop) (a b c : Int32), wp_Ch_kind P (8 + 8 * i) (nI (k + 2)) (Hm (T5 mu (8 + 8 * i) (mk8 (isW t i)) a b c) l) ↔ P (nI (knd t i (k + 2))) (Hm (T5 mu (8 + 8 * i) (mk8 (isW t i)) a b c) l) := fun P a b c => sp_Ch_kind P h12 (T5_r mu (8 + 8 * i) (mk8 (isW t i)) a b c).1 (by omega) l
        have hkl := knd_le t i (k + 2)
        have k1 : nI (knd t i (k + 2)) = 1 ↔ isS t i (k + 2) = true := by rw [← knd_1]; exact nI_eq (by omega) (by decide)
        have k2 : nI (knd t i (k + 2)) = 2 ↔ k + 2 = 7 := by rw [← knd_2]; exact nI_eq (by omega) (by decide)
        unfold wp_Ch_tune_86 wp_Ch_tune_109 wp_Ch_tune_113
        have rr := fun a b c => T5_r mu (8 + 8 * i) (mk8 (isW t i)) a b c
        have r7 := fun a b c => (rr a b c).2.1
        have r9 := fun a b c => (rr a b c).2.2.1
        have r10 := fun a b c => (rr a b c).2.2.2
        simp only [Option.some.injEq, Sum.inl.injEq, Sum.inr.injEq, Prod.mk.injEq, and_assoc, exists_eq_left', exists_eq_left, exists_and_left, exists_and_right, exists_eq', exists_eq, forall_eq, forall_eq', true_and, and_true, exists_const, Hm_1, gF_ch_7 _ _ h12, gF_ch_9 _ _ h12, gF_ch_10 _ _ h12, fs_ch_7 _ _ h12, fs_ch_9 _ _ h12, fs_ch_10 _ _ h12, gC_ch _ _ h12, r7, r9, r10, T5_7, T5_9, T5_10, K1, k1, k2, e, Int32.or_zero]
        cases hS : isS t i (k + 2)
        · simp only [hS, Bool.false_eq_true, if_false] at ih'
          refine ⟨fun _ => ⟨fun h7 => ?_, fun h7 => ?_⟩, fun q => by cases q⟩
          · simpa [show ¬ k = 5 by omega] using ih'
          · simpa [show k = 5 by omega] using ih'
        · simp only [hS, if_true] at ih'
          refine ⟨fun q => absurd rfl q, fun _ => ⟨fun h7 => ?_, fun h7 => ?_⟩⟩
          · simpa [show ¬ k = 5 by omega] using ih'
          · simpa [show k = 5 by omega] using ih'
      · simp only [tmI, smI, fmI, hW, Bool.false_and, Bool.false_eq_true, if_false] at ih'
        exact ih'
  exact ⟨9, key 8 0 rfl⟩
theorem sp_Ch_untell {Post : MH → Prop} {mu : Nat → Nat → Int32} {i : Nat} (h12 : i < 12) {l : Nat → Int64} (hp : Post (Hm (fill (up mu (8 + 8 * i) 2 0) (9 + 8 * i) 0 10 0) l)) : wp_Ch_untell Post (8 + 8 * i) (Hm mu l) := by
  unfold wp_Ch_untell
  simp only [Option.some.injEq, Sum.inl.injEq, Sum.inr.injEq, Prod.mk.injEq, and_assoc, exists_eq_left', exists_eq_left, exists_and_left, exists_and_right, exists_eq', exists_eq, forall_eq, forall_eq', true_and, and_true, exists_const, Hm_1, gF_ch_2 _ _ h12, fs_ch_2 _ _ h12]
  have key : ∀ (j f : Nat), f + j = 10 → wn_Ch_untell_7 Post (j + 1) (8 + 8 * i) (nI f) (Hm (fill (up mu (8 + 8 * i) 2 0) (9 + 8 * i) 0 f 0) l) := by
    intro j
    induction j with
    | zero =>
      intro f hf
      obtain rfl : f = 10 := by omega
      exact ⟨fun _ => hp, fun e => absurd (by decide) e⟩
    | succ j ih =>
      intro f hf
      have e9 : (9 : Int32) < nI f ↔ 9 < f := nI_ltI (a := 9) (by decide) (by omega)
      have hs := fill_s (up mu (8 + 8 * i) 2 0) (9 + 8 * i) 0 f 0
      rw [Nat.zero_add] at hs
      show wb_Ch_untell_7 _ _ _ _ _
      unfold wb_Ch_untell_7
      simp only [e9, Option.some.injEq, Sum.inl.injEq, Sum.inr.injEq, Prod.mk.injEq, and_assoc, exists_eq_left', exists_eq_left, exists_and_left, exists_and_right, exists_eq', exists_eq, forall_eq, forall_eq', true_and, and_true, exists_const, Hm_1, gF_ch_4 _ _ h12, gA_sg _ _ h12, ms_sg _ _ h12, vp_in_nI (show f < 10 by omega) (show 10 < 2 ^ 31 by decide), nI_clamp (show f < 2 ^ 31 by omega), nI_1, hs]
      exact ⟨fun q => absurd q (by omega), fun _ => ih (f + 1) (by omega)⟩
  have := key 10 0 rfl
  rw [fill_0] at this
  exact ⟨11, this⟩
theorem sp_Ch_begin {Post : MH → Prop} {mu : Nat → Nat → Int32} {i a b : Nat} {c : Int} (h12 : i < 12) (ha : a ≤ 6) {l : Nat → Int64} (hp : Post (Hm (fill (up (fill (up (up (up mu (8 + 8 * i) 0 (nI a)) (8 + 8 * i) 1 (iI (12 * ((b : Int) + 1) + semi a + c))) (8 + 8 * i) 6 (-1)) (10 + 8 * i) 0 3 (-1)) (8 + 8 * i) 2 0) (9 + 8 * i) 0 10 0) l)) : wp_Ch_begin Post (8 + 8 * i) (nI a) (nI b) (iI c) (Hm mu l) := by
  unfold wp_Ch_begin
  have ev : (12 : Int32) * (nI b + 1) + nI (semi a) + iI c = iI (12 * ((b : Int) + 1) + semi a + c) := by
    rw [nI_1, show (12 : Int32) = nI 12 from rfl, pk_mul, nI_add, iI_n, iI_add]
    congr 1
  simp only [Option.some.injEq, Sum.inl.injEq, Sum.inr.injEq, Prod.mk.injEq, and_assoc, exists_eq_left', exists_eq_left, exists_and_left, exists_and_right, exists_eq', exists_eq, forall_eq, forall_eq', true_and, and_true, exists_const, Hm_1, gF_ch_0 _ _ h12, fs_ch_0 _ _ h12, gF_ch_1 _ _ h12, fs_ch_1 _ _ h12, gF_ch_6 _ _ h12, fs_ch_6 _ _ h12, nI_clamp (show a < 2 ^ 31 by omega), stp_tab a (show a < 7 by omega), ev]
  refine ⟨by decide, vp_in_nI (show a < 7 by omega) (by decide), ?_⟩
  generalize up (up (up mu (8 + 8 * i) 0 (nI a)) (8 + 8 * i) 1 (iI (12 * ((b : Int) + 1) + semi a + c))) (8 + 8 * i) 6 (-1) = m at hp ⊢
  have key : ∀ (j f : Nat), f + j = 3 → wn_Ch_begin_31 Post (j + 1) (8 + 8 * i) (nI f) (Hm (fill m (10 + 8 * i) 0 f (-1)) l) := by
    intro j
    induction j with
    | zero =>
      intro f hf
      obtain rfl : f = 3 := by omega
      exact ⟨fun _ => ⟨gC_ch _ _ h12, sp_Ch_untell h12 hp⟩, fun e => absurd (by decide) e⟩
    | succ j ih =>
      intro f hf
      have hs := fill_s m (10 + 8 * i) 0 f (-1)
      rw [Nat.zero_add] at hs
      show wb_Ch_begin_31 _ _ _ _ _
      unfold wb_Ch_begin_31
      refine ⟨fun e => absurd e (nI_ge (show f < 3 by omega) (by decide)), fun _ => ?_⟩
      simp only [Option.some.injEq, Sum.inl.injEq, Sum.inr.injEq, Prod.mk.injEq, and_assoc, exists_eq_left', exists_eq_left, exists_and_left, exists_and_right, exists_eq', exists_eq, forall_eq, forall_eq', true_and, and_true, exists_const, Hm_1, gF_ch_5 _ _ h12, gA_fx _ _ h12, ms_fx _ _ h12, vp_in_nI (show f < 3 by omega) (show 3 < 2 ^ 31 by decide), nI_clamp (show f < 2 ^ 31 by omega), nI_1, hs]
      exact ih (f + 1) (by omega)
  have := key 3 0 rfl
  rw [fill_0] at this
  exact ⟨4, this⟩
theorem sp_Ch_tell {Post : MH → Prop} {mu : Nat → Nat → Int32} {i f g : Nat} (h12 : i < 12) (hf : f < 10) {l : Nat → Int64} (hp : Post (Hm (up (up mu (8 + 8 * i) 2 (mu (8 + 8 * i) 2 ||| bit f)) (9 + 8 * i) f (nI g)) l)) : wp_Ch_tell Post (8 + 8 * i) (nI f) (nI g) (Hm mu l) := by
  unfold wp_Ch_tell
  simp only [Option.some.injEq, Sum.inl.injEq, Sum.inr.injEq, Prod.mk.injEq, and_assoc, exists_eq_left', exists_eq_left, exists_and_left, exists_and_right, exists_eq', exists_eq, forall_eq, forall_eq', true_and, and_true, exists_const, Hm_1, gF_ch_2 _ _ h12, fs_ch_2 _ _ h12, gF_ch_4 _ _ h12, gA_sg _ _ h12, ms_sg _ _ h12, vp_in_nI hf (show 10 < 2 ^ 31 by decide), nI_clamp (show f < 2 ^ 31 by omega)]
  exact hp
