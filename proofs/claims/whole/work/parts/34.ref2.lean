theorem n_sub1 {a : Nat} (h : 1 ≤ a) : nI a - 1 = nI (a - 1) := pk_sub h
theorem sp_Rm_letterOf (Post : Int32 → MH → Prop) {s : SG} {mu : Nat → Nat → Int32} (hb : RB s mu) (hw : WF s) {i f : Nat} (hi : i < sn s) (h1 : 1 ≤ f) (hf : f < 10) (l : Nat → Int64) : wp_Rm_letterOf Post 113 (nI i) (nI f) (Hm mu l) ↔ Post (nI (tlet s i f)) (Hm mu l) := by
  have h12 := hw.n
  have h6 := hw.lt hi
  unfold wp_Rm_letterOf
  simp only [Option.some.injEq, Sum.inl.injEq, Sum.inr.injEq, Prod.mk.injEq, and_assoc, exists_eq_left', exists_eq_left, exists_and_left, exists_and_right, exists_eq', exists_eq, forall_eq, forall_eq', true_and, and_true, exists_const, Hm_1, gC_Rm, gF_Rm_0, fs_Rm_0, gF_Rm_1, fs_Rm_1, gF_Rm_2, fs_Rm_2, gF_Rm_3, gF_Rm_4, gF_Rm_5, gF_Rm_6, gF_Rm_7, gF_Rm_8, gF_Rm_9, gF_Rm_10, fs_Rm_10, gF_Rm_11, gF_Rm_12, gF_Rm_13, gF_Rm_14, gF_Rm_15, gF_Rm_16, gF_Rm_17, gF_Rm_18, gF_Rm_19, fs_Rm_19, gF_Rm_20, gF_Rm_21, gF_Rm_22, gF_Rm_23, gF_Rm_24, fs_Rm_24, gF_Rm_25, gA_Rle, ms_Rle, gA_Roc, ms_Roc, gA_Ral, ms_Ral, gA_Rto, ms_Rto, gA_Rlo, ms_Rlo, gA_Rhi, ms_Rhi, gA_Rho, ms_Rho, gA_Rgi, ms_Rgi, gA_Rha, ms_Rha, gA_Ris, ms_Ris, gA_Rno, ms_Rno, gA_Rbe, ms_Rbe, gA_Rtn, ms_Rtn, gA_Rsu, ms_Rsu, gA_Rfa, ms_Rfa, gA_Rpi, ms_Rpi, gA_Rsi, ms_Rsi, gA_Rre, ms_Rre, gL_Rro, ms_Rro, gA_Rch, ms_Rch, vp_in_nI (show i < 12 by omega) (show 12 < 2 ^ 31 by omega), nI_clamp (show i < 2 ^ 31 by omega), hb.lt hi, nI_add, n_sub1 (show 1 ≤ slt s i + f by omega), show (7 : Int32) = nI 7 from rfl, pk_rem (show slt s i + f - 1 < 2 ^ 31 by omega) (show 0 < 7 by omega) (show 7 < 2 ^ 31 by omega)]
  rfl
theorem key_tab : ∀ j : Nat, j < 15 → ∀ p, p < 7 → (if iI ((j : Int) - 7) ≤ nI p then (if -(iI ((j : Int) - 7)) ≤ (6 : Int32) - nI p then (0 : Int32) else -1) else 1) = iI (if (p : Int) < (j : Int) - 7 then 1 else if 6 - (p : Int) < -((j : Int) - 7) then -1 else 0) := by decide +kernel
theorem sp_key55 (Post : Int32 → MH → Prop) {s : SG} {mu : Nat → Nat → Int32} (hb : RB s mu) (hw : WF s) {p : Nat} (hp : p < 7) (l : Nat → Int64) : wp_Rm_keyOf_55 Post 113 (nI p) (Hm mu l) ↔ Post (iI (if (p : Int) < sF s then 1 else if 6 - (p : Int) < - sF s then -1 else 0)) (Hm mu l) := by
  have hF := hw.1
  unfold wp_Rm_keyOf_55
  simp only [Option.some.injEq, Sum.inl.injEq, Sum.inr.injEq, Prod.mk.injEq, and_assoc, exists_eq_left', exists_eq_left, exists_and_left, exists_and_right, exists_eq', exists_eq, forall_eq, forall_eq', true_and, and_true, exists_const, Hm_1, gC_Rm, gF_Rm_0, fs_Rm_0, gF_Rm_1, fs_Rm_1, gF_Rm_2, fs_Rm_2, gF_Rm_3, gF_Rm_4, gF_Rm_5, gF_Rm_6, gF_Rm_7, gF_Rm_8, gF_Rm_9, gF_Rm_10, fs_Rm_10, gF_Rm_11, gF_Rm_12, gF_Rm_13, gF_Rm_14, gF_Rm_15, gF_Rm_16, gF_Rm_17, gF_Rm_18, gF_Rm_19, fs_Rm_19, gF_Rm_20, gF_Rm_21, gF_Rm_22, gF_Rm_23, gF_Rm_24, fs_Rm_24, gF_Rm_25, gA_Rle, ms_Rle, gA_Roc, ms_Roc, gA_Ral, ms_Ral, gA_Rto, ms_Rto, gA_Rlo, ms_Rlo, gA_Rhi, ms_Rhi, gA_Rho, ms_Rho, gA_Rgi, ms_Rgi, gA_Rha, ms_Rha, gA_Ris, ms_Ris, gA_Rno, ms_Rno, gA_Rbe, ms_Rbe, gA_Rtn, ms_Rtn, gA_Rsu, ms_Rsu, gA_Rfa, ms_Rfa, gA_Rpi, ms_Rpi, gA_Rsi, ms_Rsi, gA_Rre, ms_Rre, gL_Rro, ms_Rro, gA_Rch, ms_Rch, hb.1, pf1, pf2]
  have := key_tab (sF s + 7).toNat (by omega) p hp
  rw [show (((sF s + 7).toNat : Nat) : Int) - 7 = sF s by omega] at this
  rw [this]
theorem c7 {P : Nat → Prop} (h0 : P 0) (h1 : P 1) (h2 : P 2) (h3 : P 3) (h4 : P 4) (h5 : P 5) (h6 : P 6) : ∀ f, f ≤ 6 → P f := by
  intro f b
  match f, b with
  | 0, _ => exact h0
  | 1, _ => exact h1
  | 2, _ => exact h2
  | 3, _ => exact h3
  | 4, _ => exact h4
  | 5, _ => exact h5
  | 6, _ => exact h6
theorem sp_Rm_keyOf (Post : Int32 → MH → Prop) {s : SG} {mu : Nat → Nat → Int32} (hb : RB s mu) (hw : WF s) (l : Nat → Int64) : ∀ t, t ≤ 6 → (wp_Rm_keyOf Post 113 (nI t) (Hm mu l) ↔ Post (iI (kal (sF s) t)) (Hm mu l)) := by
  have K := fun (p : Nat) (hp : p < 7) => sp_key55 Post hb hw hp l
  have K0 := K 0 (by decide)
  have K1 := K 1 (by decide)
  have K2 := K 2 (by decide)
  have K3 := K 3 (by decide)
  have K4 := K 4 (by decide)
  have K5 := K 5 (by decide)
  have K6 := K 6 (by decide)
  refine c7 ?_ ?_ ?_ ?_ ?_ ?_ ?_
  all_goals
    unfold wp_Rm_keyOf
    simp only [show (0 : Int32) = nI 0 from rfl, show (1 : Int32) = nI 1 from rfl, show (2 : Int32) = nI 2 from rfl, show (3 : Int32) = nI 3 from rfl, show (4 : Int32) = nI 4 from rfl, show (5 : Int32) = nI 5 from rfl, show (6 : Int32) = nI 6 from rfl, K0, K1, K2, K3, K4, K5, K6, nI_eq, Nat.reducePow, Nat.reduceLT, Nat.reduceEqDiff, false_implies, not_false_eq_true, true_implies, not_true_eq_false, forall_const, and_true, true_and, reduceCtorEq]
    rfl
theorem sp_Rm_alterOf (Post : Int32 → MH → Prop) {s : SG} {mu : Nat → Nat → Int32} (hb : RB s mu) (hw : WF s) {i f : Nat} (hi : i < sn s) (h1 : 1 ≤ f) (hf : f < 10) (l : Nat → Int64) : wp_Rm_alterOf Post 113 (nI i) (nI f) (Hm mu l) ↔ Post (iI (talt s i f)) (Hm mu l) := by
  have h12 := hw.n
  have h4 := hw.td hi f
  have ht : tlet s i f ≤ 6 := by unfold tlet; omega
  have KK := sp_Rm_keyOf Post hb hw l _ ht
  unfold wp_Rm_alterOf
  simp only [Option.some.injEq, Sum.inl.injEq, Sum.inr.injEq, Prod.mk.injEq, and_assoc, exists_eq_left', exists_eq_left, exists_and_left, exists_and_right, exists_eq', exists_eq, forall_eq, forall_eq', true_and, and_true, exists_const, Hm_1, gC_Rm, gF_Rm_0, fs_Rm_0, gF_Rm_1, fs_Rm_1, gF_Rm_2, fs_Rm_2, gF_Rm_3, gF_Rm_4, gF_Rm_5, gF_Rm_6, gF_Rm_7, gF_Rm_8, gF_Rm_9, gF_Rm_10, fs_Rm_10, gF_Rm_11, gF_Rm_12, gF_Rm_13, gF_Rm_14, gF_Rm_15, gF_Rm_16, gF_Rm_17, gF_Rm_18, gF_Rm_19, fs_Rm_19, gF_Rm_20, gF_Rm_21, gF_Rm_22, gF_Rm_23, gF_Rm_24, fs_Rm_24, gF_Rm_25, gA_Rle, ms_Rle, gA_Roc, ms_Roc, gA_Ral, ms_Ral, gA_Rto, ms_Rto, gA_Rlo, ms_Rlo, gA_Rhi, ms_Rhi, gA_Rho, ms_Rho, gA_Rgi, ms_Rgi, gA_Rha, ms_Rha, gA_Ris, ms_Ris, gA_Rno, ms_Rno, gA_Rbe, ms_Rbe, gA_Rtn, ms_Rtn, gA_Rsu, ms_Rsu, gA_Rfa, ms_Rfa, gA_Rpi, ms_Rpi, gA_Rsi, ms_Rsi, gA_Rre, ms_Rre, gL_Rro, ms_Rro, gA_Rch, ms_Rch, show (10 : Int32) = nI 10 from rfl, pk_mul, nI_add, vp_in_nI (show 10 * i + f < 120 by omega) (show 120 < 2 ^ 31 by omega), nI_clamp (show 10 * i + f < 2 ^ 31 by omega), hb.td hi hf, sp_Rm_letterOf _ hb hw hi h1 hf, KK]
  unfold talt
  rcases (show std s i f = 0 ∨ std s i f = 1 ∨ std s i f = 2 ∨ std s i f = 3 ∨ std s i f = 4 by omega) with e | e | e | e | e
  all_goals
    rw [e]
    simp [nI, iI]
    try rfl
theorem mod_tab : ∀ j : Nat, j < 14 → ((iI ((j : Int) - 1) - iI ((j : Int) - 1) / 12 * 12) + 12) - ((iI ((j : Int) - 1) - iI ((j : Int) - 1) / 12 * 12) + 12) / 12 * 12 = nI ((((j : Int) - 1) % 12).toNat) := by decide +kernel
theorem semi_le {t : Nat} (h : t ≤ 6) : semi t ≤ 11 := by unfold semi; split <;> omega
theorem sp_Rm_semitones (Post : Int32 → MH → Prop) {t : Nat} (ht : t ≤ 6) (h : MH) : wp_Rm_semitones Post (nI t) h ↔ Post (nI (semi t)) h := by
  unfold wp_Rm_semitones
  simp only [show (3 : Int32) = nI 3 from rfl, nI_leI (show 3 < 2 ^ 31 by omega) (show t < 2 ^ 31 by omega), show (2 : Int32) = nI 2 from rfl, pk_mul, pf1, pf2]
  unfold semi
  by_cases e : 3 ≤ t
  · rw [if_pos e, if_neg (by omega), n_sub1 (by omega)]
  · rw [if_neg e, if_pos (by omega)]
theorem talt_rg (s : SG) (i f : Nat) : -1 ≤ talt s i f ∧ talt s i f ≤ 1 := by
  unfold talt kal; repeat' split
  all_goals omega
theorem sp_Rm_classOf (Post : Int32 → MH → Prop) {s : SG} {mu : Nat → Nat → Int32} (hb : RB s mu) (hw : WF s) {i f : Nat} (hi : i < sn s) (h1 : 1 ≤ f) (hf : f < 10) (l : Nat → Int64) : wp_Rm_classOf Post 113 (nI i) (nI f) (Hm mu l) ↔ Post (nI (tcl s i f)) (Hm mu l) := by
  have ht : tlet s i f ≤ 6 := by unfold tlet; omega
  have hs := semi_le ht
  have hr := talt_rg s i f
  unfold wp_Rm_classOf
  simp only [gC_Rm, true_and, sp_Rm_letterOf _ hb hw hi h1 hf, sp_Rm_semitones _ ht, sp_Rm_alterOf _ hb hw hi h1 hf]
  unfold wp_Rm_mod
  rw [iI_n, iI_add]
  have := mod_tab ((semi (tlet s i f) : Int) + talt s i f + 1).toNat (by omega)
  rw [show (((((semi (tlet s i f) : Int) + talt s i f + 1).toNat : Nat) : Int)) - 1 = (semi (tlet s i f) : Int) + talt s i f by omega] at this
  rw [this]
  have e : ¬ (12 : Int32) = 0 := by decide
  simp only [e, not_false_eq_true, true_and]
  rfl
set_option maxHeartbeats 4000000 in
theorem sp_Rm_isSuspended (Post : Int32 → MH → Prop) {s : SG} {mu : Nat → Nat → Int32} (hb : RB s mu) (hw : WF s) {i f : Nat} (hi : i < sn s) (h2 : 2 ≤ f) (hf : f < 10) (l : Nat → Int64) : wp_Rm_isSuspended Post 113 (nI i) (nI f) (Hm mu l) ↔ Post (bI (isS s i f)) (Hm mu l) := by
  have T := fun (P : Int32 → MH → Prop) => sp_Rm_isWorked P hb hw hi l
  have T2 := fun P => T P 2 (by decide) (by decide)
  have T3 := fun P => T P 3 (by decide) (by decide)
  have T6 := fun P => T P 6 (by decide) (by decide)
  unfold wp_Rm_isSuspended
  simp only [show (9 : Int32) = nI 9 from rfl, show (2 : Int32) = nI 2 from rfl, show (3 : Int32) = nI 3 from rfl, show (4 : Int32) = nI 4 from rfl, show (6 : Int32) = nI 6 from rfl, nI_eq (show f < 2 ^ 31 by omega), gC_Rm, true_and, T2, T3, T6, bI_0, pf1, pf2, Nat.reducePow, Nat.reduceLT]
  refine iff_of_eq (congrArg (fun z => Post z (Hm mu l)) ?_)
  unfold isS
  generalize isW s i 2 = b2
  generalize isW s i 3 = b3
  generalize isW s i 6 = b6
  by_cases e9 : f = 9
  · subst e9; revert b2 b3 b6; decide
  · by_cases e4 : f = 4
    · subst e4; revert b2 b3 b6; decide
    · simp [e9, e4, bI]
