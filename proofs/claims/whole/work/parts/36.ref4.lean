theorem rem12 {x : Nat} (h : x < 2 ^ 31) : nI x - nI x / 12 * 12 = nI (x % 12) := pk_rem h (by decide) (by decide)
def has1 (m : Int32) (c : Nat) : Bool := decide ((m >>> (nI c &&& 31)) &&& 1 = 1)
theorem sp_Rm_has (Post : Int32 → MH → Prop) (m : Int32) (c : Nat) (h : MH) : wp_Rm_has Post m (nI c) h ↔ Post (bI (has1 m c)) h := by
  unfold wp_Rm_has has1
  by_cases e : (m >>> (nI c &&& 31)) &&& 1 = 1 <;> simp [e, bI]
def bN (s : SG) (i : Nat) : Nat := (bas s i).toNat
theorem bas_rg {s : SG} (hw : WF s) {i : Nat} (hi : i < sn s) : 23 ≤ bas s i ∧ bas s i ≤ 84 := by
  have h := hw.2.2.2.1 i hi
  have h2 := semi_le h.1
  unfold bas
  omega
theorem bN_rg {s : SG} (hw : WF s) {i : Nat} (hi : i < sn s) : 23 ≤ bN s i ∧ bN s i ≤ 84 := by
  have := bas_rg hw hi; unfold bN; omega
theorem bN_i {s : SG} (hw : WF s) {i : Nat} (hi : i < sn s) : iI (bas s i) = nI (bN s i) := by
  have := bas_rg hw hi; rw [iI_n]; unfold bN; congr 1; omega
theorem sp_Rm_bassOf (Post : Int32 → MH → Prop) {s : SG} {mu : Nat → Nat → Int32} (hb : RB s mu) (hw : WF s) {i : Nat} (hi : i < sn s) (l : Nat → Int64) : wp_Rm_bassOf Post 113 (nI i) (Hm mu l) ↔ Post (nI (bN s i)) (Hm mu l) := by
  have h12 := hw.n
  have h := hw.2.2.2.1 i hi
  unfold wp_Rm_bassOf
  simp only [Option.some.injEq, Sum.inl.injEq, Sum.inr.injEq, Prod.mk.injEq, and_assoc, exists_eq_left', exists_eq_left, exists_and_left, exists_and_right, exists_eq', exists_eq, forall_eq, forall_eq', true_and, and_true, exists_const, Hm_1, gC_Rm, gF_Rm_0, fs_Rm_0, gF_Rm_1, fs_Rm_1, gF_Rm_2, fs_Rm_2, gF_Rm_3, gF_Rm_4, gF_Rm_5, gF_Rm_6, gF_Rm_7, gF_Rm_8, gF_Rm_9, gF_Rm_10, fs_Rm_10, gF_Rm_11, gF_Rm_12, gF_Rm_13, gF_Rm_14, gF_Rm_15, gF_Rm_16, gF_Rm_17, gF_Rm_18, gF_Rm_19, fs_Rm_19, gF_Rm_20, gF_Rm_21, gF_Rm_22, gF_Rm_23, gF_Rm_24, fs_Rm_24, gF_Rm_25, gA_Rle, ms_Rle, gA_Roc, ms_Roc, gA_Ral, ms_Ral, gA_Rto, ms_Rto, gA_Rlo, ms_Rlo, gA_Rhi, ms_Rhi, gA_Rho, ms_Rho, gA_Rgi, ms_Rgi, gA_Rha, ms_Rha, gA_Ris, ms_Ris, gA_Rno, ms_Rno, gA_Rbe, ms_Rbe, gA_Rtn, ms_Rtn, gA_Rsu, ms_Rsu, gA_Rfa, ms_Rfa, gA_Rpi, ms_Rpi, gA_Rsi, ms_Rsi, gA_Rre, ms_Rre, gL_Rro, ms_Rro, gA_Rch, ms_Rch, vp_in_nI (show i < 12 by omega) (show 12 < 2 ^ 31 by omega), nI_clamp (show i < 2 ^ 31 by omega), hb.lt hi, hb.oc hi, hb.al hi, sp_Rm_semitones _ h.1]
  rw [← bN_i hw hi, nI_1, show (12 : Int32) = nI 12 from rfl, pk_mul, nI_add, iI_n, iI_add]
  unfold bas
  refine iff_of_eq (congrArg (fun z => Post (iI z) (Hm mu l)) ?_)
  push_cast
  omega
def lead (s : SG) : Nat := ((7 * sF s + 11) % 12).toNat
def ldc (s : SG) (x : Nat) : Nat := if x % 12 = lead s then 1 else 0
def stray (s : SG) (i v x : Nat) : Bool := decide (0 ≤ sgv s i v ∧ ¬ sgv s i v = (x : Int))
def r7 (s : SG) (i a b c : Nat) : Nat := if stray s i 0 a || stray s i 1 b || stray s i 2 c then 7 else 0
def r6 (s : SG) (i a b c : Nat) : Nat := if 1 < ldc s a + ldc s b + ldc s c + ldc s (bN s i) then 6 else r7 s i a b c
def r5 (s : SG) (i a b c : Nat) : Nat := if b + 12 < a ∨ c + 12 < b then 5 else r6 s i a b c
def r4 (s : SG) (i a b c : Nat) : Nat := if a < b ∨ b < c ∨ c < bN s i then 4 else r5 s i a b c
def bits4 (a b c d : Nat) : Int32 := ((((0 : Int32) ||| bit (a % 12)) ||| bit (b % 12)) ||| bit (c % 12)) ||| bit (d % 12)
def r3 (s : SG) (i a b c : Nat) : Nat := if tmI s i 8 &&& (bits4 a b c (bN s i) ^^^ (-1)) = 0 then r4 s i a b c else 3
def okc (s : SG) (i x : Nat) : Bool := decide (x % 12 = bN s i % 12) || has1 (tmI s i 8) (x % 12)
def r2 (s : SG) (i a b c : Nat) : Nat := if okc s i a && okc s i b && okc s i c then r3 s i a b c else 2
def inR (s : SG) (v x : Nat) : Bool := decide (slo s v ≤ x ∧ x ≤ shi s v)
def alone (s : SG) (i a b c : Nat) : Nat := if inR s 0 a && inR s 1 b && inR s 2 c then r2 s i a b c else 1
def Now (mu : Nat → Nat → Int32) (a b c d : Nat) : Prop := mu 124 0 = nI a ∧ mu 124 1 = nI b ∧ mu 124 2 = nI c ∧ mu 124 3 = nI d
def sel3 (a b c : Nat) : Nat → Nat := fun v => if v = 0 then a else if v = 1 then b else c
def sel4 (a b c d : Nat) : Nat → Nat := fun v => if v = 0 then a else if v = 1 then b else if v = 2 then c else d
theorem Now.at {mu : Nat → Nat → Int32} {a b c d : Nat} (h : Now mu a b c d) : ∀ v, v < 4 → mu 124 v = nI (sel4 a b c d v) := by
  intro v hv
  match v, hv with
  | 0, _ => exact h.1
  | 1, _ => exact h.2.1
  | 2, _ => exact h.2.2.1
  | 3, _ => exact h.2.2.2
theorem c4n {n : Nat} (h : n < 4) : nI n + 1 = nI (n + 1) := nI_1 n
theorem sp_Rm_classes (Post : Int32 → MH → Prop) {mu : Nat → Nat → Int32} {a b c d : Nat} (hn : Now mu a b c d) (ha : a < 2 ^ 31) (hb : b < 2 ^ 31) (hc : c < 2 ^ 31) (hd : d < 2 ^ 31) (l : Nat → Int64) (hp : Post (bits4 a b c d) (Hm mu l)) : wp_Rm_classes Post 113 (Hm mu l) := by
  refine ⟨5, ?_⟩
  show wb_Rm_classes_4 _ _ _ _ _ _
  have e0 : ((0 : Int32)).toNatClampNeg = 0 := rfl
  have e1 : ((1 : Int32)).toNatClampNeg = 1 := rfl
  have e2 : ((2 : Int32)).toNatClampNeg = 2 := rfl
  have e3 : ((3 : Int32)).toNatClampNeg = 3 := rfl
  have v0 : vp_in 0 4 := by unfold vp_in; decide
  have v1 : vp_in 1 4 := by unfold vp_in; decide
  have v2 : vp_in 2 4 := by unfold vp_in; decide
  have v3 : vp_in 3 4 := by unfold vp_in; decide
  unfold wb_Rm_classes_4
  refine ⟨fun h => absurd h (by decide), fun _ => ?_⟩
  simp only [Option.some.injEq, Sum.inl.injEq, Sum.inr.injEq, Prod.mk.injEq, and_assoc, exists_eq_left', exists_eq_left, exists_and_left, exists_and_right, exists_eq', exists_eq, forall_eq, forall_eq', true_and, and_true, exists_const, Hm_1, gC_Rm, gF_Rm_0, fs_Rm_0, gF_Rm_1, fs_Rm_1, gF_Rm_2, fs_Rm_2, gF_Rm_3, gF_Rm_4, gF_Rm_5, gF_Rm_6, gF_Rm_7, gF_Rm_8, gF_Rm_9, gF_Rm_10, fs_Rm_10, gF_Rm_11, gF_Rm_12, gF_Rm_13, gF_Rm_14, gF_Rm_15, gF_Rm_16, gF_Rm_17, gF_Rm_18, gF_Rm_19, fs_Rm_19, gF_Rm_20, gF_Rm_21, gF_Rm_22, gF_Rm_23, gF_Rm_24, fs_Rm_24, gF_Rm_25, gA_Rle, ms_Rle, gA_Roc, ms_Roc, gA_Ral, ms_Ral, gA_Rto, ms_Rto, gA_Rlo, ms_Rlo, gA_Rhi, ms_Rhi, gA_Rho, ms_Rho, gA_Rgi, ms_Rgi, gA_Rha, ms_Rha, gA_Ris, ms_Ris, gA_Rno, ms_Rno, gA_Rbe, ms_Rbe, gA_Rtn, ms_Rtn, gA_Rsu, ms_Rsu, gA_Rfa, ms_Rfa, gA_Rpi, ms_Rpi, gA_Rsi, ms_Rsi, gA_Rre, ms_Rre, gL_Rro, ms_Rro, gA_Rch, ms_Rch, e0, v0, hn.1, rem12 ha]
  show wb_Rm_classes_4 _ _ _ _ _ _
  unfold wb_Rm_classes_4
  refine ⟨fun h => absurd h (by decide), fun _ => ?_⟩
  simp only [Option.some.injEq, Sum.inl.injEq, Sum.inr.injEq, Prod.mk.injEq, and_assoc, exists_eq_left', exists_eq_left, exists_and_left, exists_and_right, exists_eq', exists_eq, forall_eq, forall_eq', true_and, and_true, exists_const, Hm_1, gC_Rm, gF_Rm_0, fs_Rm_0, gF_Rm_1, fs_Rm_1, gF_Rm_2, fs_Rm_2, gF_Rm_3, gF_Rm_4, gF_Rm_5, gF_Rm_6, gF_Rm_7, gF_Rm_8, gF_Rm_9, gF_Rm_10, fs_Rm_10, gF_Rm_11, gF_Rm_12, gF_Rm_13, gF_Rm_14, gF_Rm_15, gF_Rm_16, gF_Rm_17, gF_Rm_18, gF_Rm_19, fs_Rm_19, gF_Rm_20, gF_Rm_21, gF_Rm_22, gF_Rm_23, gF_Rm_24, fs_Rm_24, gF_Rm_25, gA_Rle, ms_Rle, gA_Roc, ms_Roc, gA_Ral, ms_Ral, gA_Rto, ms_Rto, gA_Rlo, ms_Rlo, gA_Rhi, ms_Rhi, gA_Rho, ms_Rho, gA_Rgi, ms_Rgi, gA_Rha, ms_Rha, gA_Ris, ms_Ris, gA_Rno, ms_Rno, gA_Rbe, ms_Rbe, gA_Rtn, ms_Rtn, gA_Rsu, ms_Rsu, gA_Rfa, ms_Rfa, gA_Rpi, ms_Rpi, gA_Rsi, ms_Rsi, gA_Rre, ms_Rre, gL_Rro, ms_Rro, gA_Rch, ms_Rch, show (0 : Int32) + 1 = 1 from rfl, e1, v1, hn.2.1, rem12 hb]
  show wb_Rm_classes_4 _ _ _ _ _ _
  unfold wb_Rm_classes_4
  refine ⟨fun h => absurd h (by decide), fun _ => ?_⟩
  simp only [Option.some.injEq, Sum.inl.injEq, Sum.inr.injEq, Prod.mk.injEq, and_assoc, exists_eq_left', exists_eq_left, exists_and_left, exists_and_right, exists_eq', exists_eq, forall_eq, forall_eq', true_and, and_true, exists_const, Hm_1, gC_Rm, gF_Rm_0, fs_Rm_0, gF_Rm_1, fs_Rm_1, gF_Rm_2, fs_Rm_2, gF_Rm_3, gF_Rm_4, gF_Rm_5, gF_Rm_6, gF_Rm_7, gF_Rm_8, gF_Rm_9, gF_Rm_10, fs_Rm_10, gF_Rm_11, gF_Rm_12, gF_Rm_13, gF_Rm_14, gF_Rm_15, gF_Rm_16, gF_Rm_17, gF_Rm_18, gF_Rm_19, fs_Rm_19, gF_Rm_20, gF_Rm_21, gF_Rm_22, gF_Rm_23, gF_Rm_24, fs_Rm_24, gF_Rm_25, gA_Rle, ms_Rle, gA_Roc, ms_Roc, gA_Ral, ms_Ral, gA_Rto, ms_Rto, gA_Rlo, ms_Rlo, gA_Rhi, ms_Rhi, gA_Rho, ms_Rho, gA_Rgi, ms_Rgi, gA_Rha, ms_Rha, gA_Ris, ms_Ris, gA_Rno, ms_Rno, gA_Rbe, ms_Rbe, gA_Rtn, ms_Rtn, gA_Rsu, ms_Rsu, gA_Rfa, ms_Rfa, gA_Rpi, ms_Rpi, gA_Rsi, ms_Rsi, gA_Rre, ms_Rre, gL_Rro, ms_Rro, gA_Rch, ms_Rch, show (1 : Int32) + 1 = 2 from rfl, e2, v2, hn.2.2.1, rem12 hc]
  show wb_Rm_classes_4 _ _ _ _ _ _
  unfold wb_Rm_classes_4
  refine ⟨fun h => absurd h (by decide), fun _ => ?_⟩
  simp only [Option.some.injEq, Sum.inl.injEq, Sum.inr.injEq, Prod.mk.injEq, and_assoc, exists_eq_left', exists_eq_left, exists_and_left, exists_and_right, exists_eq', exists_eq, forall_eq, forall_eq', true_and, and_true, exists_const, Hm_1, gC_Rm, gF_Rm_0, fs_Rm_0, gF_Rm_1, fs_Rm_1, gF_Rm_2, fs_Rm_2, gF_Rm_3, gF_Rm_4, gF_Rm_5, gF_Rm_6, gF_Rm_7, gF_Rm_8, gF_Rm_9, gF_Rm_10, fs_Rm_10, gF_Rm_11, gF_Rm_12, gF_Rm_13, gF_Rm_14, gF_Rm_15, gF_Rm_16, gF_Rm_17, gF_Rm_18, gF_Rm_19, fs_Rm_19, gF_Rm_20, gF_Rm_21, gF_Rm_22, gF_Rm_23, gF_Rm_24, fs_Rm_24, gF_Rm_25, gA_Rle, ms_Rle, gA_Roc, ms_Roc, gA_Ral, ms_Ral, gA_Rto, ms_Rto, gA_Rlo, ms_Rlo, gA_Rhi, ms_Rhi, gA_Rho, ms_Rho, gA_Rgi, ms_Rgi, gA_Rha, ms_Rha, gA_Ris, ms_Ris, gA_Rno, ms_Rno, gA_Rbe, ms_Rbe, gA_Rtn, ms_Rtn, gA_Rsu, ms_Rsu, gA_Rfa, ms_Rfa, gA_Rpi, ms_Rpi, gA_Rsi, ms_Rsi, gA_Rre, ms_Rre, gL_Rro, ms_Rro, gA_Rch, ms_Rch, show (2 : Int32) + 1 = 3 from rfl, e3, v3, hn.2.2.2, rem12 hd]
  show wb_Rm_classes_4 _ _ _ _ _ _
  unfold wb_Rm_classes_4
  exact ⟨fun _ => hp, fun h => absurd (by decide) h⟩
