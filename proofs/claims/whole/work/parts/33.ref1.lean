theorem n_le0 {n : Nat} (h : n < 2 ^ 31) : nI n ≤ 0 ↔ n = 0 := by
  rw [← nI_0, nI_leI h (by decide)]; omega
theorem n_eq0 {n : Nat} (h : n < 2 ^ 31) : nI n = 0 ↔ n = 0 := by
  rw [← nI_0, nI_eq h (by decide)]
theorem RB.td {s : SG} {mu : Nat → Nat → Int32} (hb : RB s mu) {i f : Nat} (hi : i < sn s) (hf : f < 10) : mu 117 (10 * i + f) = nI (std s i f) := hb.2.2.2.2.1 i hi f hf
theorem RB.lt {s : SG} {mu : Nat → Nat → Int32} (hb : RB s mu) {i : Nat} (hi : i < sn s) : mu 114 i = nI (slt s i) := (hb.2.2.2.1 i hi).1
theorem RB.oc {s : SG} {mu : Nat → Nat → Int32} (hb : RB s mu) {i : Nat} (hi : i < sn s) : mu 115 i = nI (soc s i) := (hb.2.2.2.1 i hi).2.1
theorem RB.al {s : SG} {mu : Nat → Nat → Int32} (hb : RB s mu) {i : Nat} (hi : i < sn s) : mu 116 i = iI (sal s i) := (hb.2.2.2.1 i hi).2.2
theorem WF.n {s : SG} (hw : WF s) : sn s ≤ 12 := hw.2.1
theorem WF.td {s : SG} (hw : WF s) {i : Nat} (hi : i < sn s) (f : Nat) : std s i f ≤ 4 := (hw.2.2.2.2.1 i hi).1 f
theorem WF.lt {s : SG} (hw : WF s) {i : Nat} (hi : i < sn s) : slt s i ≤ 6 := (hw.2.2.2.1 i hi).1
theorem sp_isTold0 (Post : Int32 → MH → Prop) {s : SG} {mu : Nat → Nat → Int32} (hb : RB s mu) {i f : Nat} (h12 : sn s ≤ 12) (h44 : ∀ f, std s i f ≤ 4) (hi : i < sn s) (hf : f < 10) (l : Nat → Int64) : wp_Rm_isTold Post 113 (nI i) (nI f) (Hm mu l) ↔ Post (bI (tl s i f)) (Hm mu l) := by
  have h4 := h44 f
  unfold wp_Rm_isTold
  simp only [Option.some.injEq, Sum.inl.injEq, Sum.inr.injEq, Prod.mk.injEq, and_assoc, exists_eq_left', exists_eq_left, exists_and_left, exists_and_right, exists_eq', exists_eq, forall_eq, forall_eq', true_and, and_true, exists_const, Hm_1, gC_Rm, gF_Rm_0, fs_Rm_0, gF_Rm_1, fs_Rm_1, gF_Rm_2, fs_Rm_2, gF_Rm_3, gF_Rm_4, gF_Rm_5, gF_Rm_6, gF_Rm_7, gF_Rm_8, gF_Rm_9, gF_Rm_10, fs_Rm_10, gF_Rm_11, gF_Rm_12, gF_Rm_13, gF_Rm_14, gF_Rm_15, gF_Rm_16, gF_Rm_17, gF_Rm_18, gF_Rm_19, fs_Rm_19, gF_Rm_20, gF_Rm_21, gF_Rm_22, gF_Rm_23, gF_Rm_24, fs_Rm_24, gF_Rm_25, gA_Rle, ms_Rle, gA_Roc, ms_Roc, gA_Ral, ms_Ral, gA_Rto, ms_Rto, gA_Rlo, ms_Rlo, gA_Rhi, ms_Rhi, gA_Rho, ms_Rho, gA_Rgi, ms_Rgi, gA_Rha, ms_Rha, gA_Ris, ms_Ris, gA_Rno, ms_Rno, gA_Rbe, ms_Rbe, gA_Rtn, ms_Rtn, gA_Rsu, ms_Rsu, gA_Rfa, ms_Rfa, gA_Rpi, ms_Rpi, gA_Rsi, ms_Rsi, gA_Rre, ms_Rre, gL_Rro, ms_Rro, gA_Rch, ms_Rch, show (10 : Int32) = nI 10 from rfl, pk_mul, nI_add, vp_in_nI (show 10 * i + f < 120 by omega) (show 120 < 2 ^ 31 by omega), nI_clamp (show 10 * i + f < 2 ^ 31 by omega), hb.td hi hf, n_le0 (show std s i f < 2 ^ 31 by omega)]
  unfold tl
  by_cases h : std s i f = 0
  · simp [h, bI]
  · have : 0 < std s i f := by omega
    simp [h, bI, this]
theorem sp_Rm_isTold (Post : Int32 → MH → Prop) {s : SG} {mu : Nat → Nat → Int32} (hb : RB s mu) (hw : WF s) {i f : Nat} (hi : i < sn s) (hf : f < 10) (l : Nat → Int64) : wp_Rm_isTold Post 113 (nI i) (nI f) (Hm mu l) ↔ Post (bI (tl s i f)) (Hm mu l) := sp_isTold0 Post hb hw.n (hw.td hi) hi hf l
theorem c10 {P : Nat → Prop} (h2 : P 2) (h3 : P 3) (h4 : P 4) (h5 : P 5) (h6 : P 6) (h7 : P 7) (h8 : P 8) (h9 : P 9) : ∀ f, 2 ≤ f → f < 10 → P f := by
  intro f a b
  match f, a, b with
  | 2, _, _ => exact h2
  | 3, _, _ => exact h3
  | 4, _, _ => exact h4
  | 5, _, _ => exact h5
  | 6, _, _ => exact h6
  | 7, _, _ => exact h7
  | 8, _, _ => exact h8
  | 9, _, _ => exact h9
theorem pf1 {c : Prop} [Decidable c] {Q : Int32 → MH → Prop} {a b : Int32} {h : MH} : ((c → Q a h) ∧ (¬ c → Q b h)) ↔ Q (if c then a else b) h := by by_cases e : c <;> simp [e]
theorem pf2 {c : Prop} [Decidable c] {Q : Int32 → MH → Prop} {a b : Int32} {h : MH} : ((¬ c → Q a h) ∧ (c → Q b h)) ↔ Q (if c then b else a) h := by by_cases e : c <;> simp [e]
set_option maxHeartbeats 4000000 in
theorem sp_isWorked0 (Post : Int32 → MH → Prop) {s : SG} {mu : Nat → Nat → Int32} (hb : RB s mu) {i : Nat} (h12 : sn s ≤ 12) (h44 : ∀ f, std s i f ≤ 4) (hi : i < sn s) (l : Nat → Int64) : ∀ f, 2 ≤ f → f < 10 → (wp_Rm_isWorked Post 113 (nI i) (nI f) (Hm mu l) ↔ Post (bI (isW s i f)) (Hm mu l)) := by
  have T : ∀ (P : Int32 → MH → Prop) (f : Nat), f < 10 → (wp_Rm_isTold P 113 (nI i) (nI f) (Hm mu l) ↔ P (bI (tl s i f)) (Hm mu l)) := fun P f hf => sp_isTold0 P hb h12 h44 hi hf l
  have T2 := fun P => T P 2 (by decide)
  have T3 := fun P => T P 3 (by decide)
  have T4 := fun P => T P 4 (by decide)
  have T5 := fun P => T P 5 (by decide)
  have T6 := fun P => T P 6 (by decide)
  have T7 := fun P => T P 7 (by decide)
  have T8 := fun P => T P 8 (by decide)
  have T9 := fun P => T P 9 (by decide)
  refine c10 ?_ ?_ ?_ ?_ ?_ ?_ ?_ ?_
  all_goals
    unfold wp_Rm_isWorked wp_Rm_isWorked_33 wp_Rm_isWorked_34 wp_Rm_isWorked_57 wp_Rm_isWorked_58
    simp only [gC_Rm, true_and, show (2 : Int32) = nI 2 from rfl, show (3 : Int32) = nI 3 from rfl, show (4 : Int32) = nI 4 from rfl, show (5 : Int32) = nI 5 from rfl, show (6 : Int32) = nI 6 from rfl, show (7 : Int32) = nI 7 from rfl, show (9 : Int32) = nI 9 from rfl]
    simp only [T2, T3, T4, T5, T6, T7, T8, T9, bI_0, wp_Rm_isWorked_33, wp_Rm_isWorked_34, wp_Rm_isWorked_57, wp_Rm_isWorked_58, gC_Rm, true_and, nI_eq, Nat.reducePow, Nat.reduceLT, Nat.reduceEqDiff, false_implies, not_false_eq_true, true_implies, not_true_eq_false, reduceCtorEq, true_or, or_true, pf1, pf2, forall_const, and_true]
    refine iff_of_eq (congrArg (fun z => Post z (Hm mu l)) ?_)
    simp only [isW]
    generalize tl s i 2 = b2
    generalize tl s i 3 = b3
    generalize tl s i 4 = b4
    generalize tl s i 5 = b5
    generalize tl s i 6 = b6
    generalize tl s i 7 = b7
    generalize tl s i 8 = b8
    generalize tl s i 9 = b9
    revert b2 b3 b4 b5 b6 b7 b8 b9
    decide
theorem sp_Rm_isWorked (Post : Int32 → MH → Prop) {s : SG} {mu : Nat → Nat → Int32} (hb : RB s mu) (hw : WF s) {i : Nat} (hi : i < sn s) (l : Nat → Int64) : ∀ f, 2 ≤ f → f < 10 → (wp_Rm_isWorked Post 113 (nI i) (nI f) (Hm mu l) ↔ Post (bI (isW s i f)) (Hm mu l)) := sp_isWorked0 Post hb hw.n (hw.td hi) hi l
