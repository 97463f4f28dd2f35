def mkS (F : Int) (n p : Nat) (lt oc : Nat → Nat) (al : Nat → Int) (td : Nat → Nat → Nat) (lo hi ho : Nat → Nat) (gv : Nat → Nat → Int) (sg : Nat → Option (Nat × Nat × Nat)) : SG := ((F, n, p), lt, oc, al, td, lo, hi, ho, gv, sg)
def hasC (s : SG) (x : Int32) : Bool := decide (0 ≤ x.toInt ∧ x.toInt < sn s)
def inI (x : Int32) (a b : Int) : Bool := decide (a ≤ x.toInt ∧ x.toInt ≤ b)
def ix (x : Int32) : Nat := x.toNatClampNeg
theorem ix_of {x : Int32} {n : Nat} (h0 : 0 ≤ x.toInt) (hn : n < 2 ^ 31) (h : x.toInt < n) : x = nI (ix x) ∧ ix x < n := by
  obtain ⟨j, hj, e⟩ := vp_in_of (vp_in_iff.mpr ⟨h0, h⟩) hn
  unfold ix
  rw [e, nI_clamp (by omega)]
  exact ⟨rfl, hj⟩
theorem hasC_ix {s : SG} (hw : WF s) {x : Int32} (h : hasC s x = true) : x = nI (ix x) ∧ ix x < sn s := by
  have h2 := hw.n
  unfold hasC at h
  simp only [decide_eq_true_eq] at h
  exact ix_of h.1 (by omega) h.2
theorem inI_ix {x : Int32} {b : Nat} (hb : b < 2 ^ 30) (h : inI x 0 b = true) : x = nI (ix x) ∧ ix x ≤ b := by
  unfold inI at h
  simp only [decide_eq_true_eq] at h
  have := ix_of (n := b + 1) h.1 (by omega) (by omega)
  exact ⟨this.1, by omega⟩
def o_key (s : SG) (x : Int32) : Int32 × SG := if inI x (-7) 7 then (iI (sF s + 7), mkS x.toInt (sn s) (sp s) (slt s) (soc s) (sal s) (std s) (slo s) (shi s) (sho s) (sgv s) (ssg s)) else (-1, s)
def o_less (s : SG) : Int32 × SG := if sn s = 0 then (-2, s) else (nI (sn s - 1), mkS (sF s) (sn s - 1) (sp s) (slt s) (soc s) (sal s) (std s) (slo s) (shi s) (sho s) (sgv s) (ssg s))
def o_range (s : SG) (v a b : Int32) : Int32 × SG := if inI v 0 2 && inI a 0 127 && inI b 0 127 && decide (a.toInt ≤ b.toInt ∧ b.toInt - a.toInt ≤ 24) then (1, mkS (sF s) (sn s) (sp s) (slt s) (soc s) (sal s) (std s) (va_up (slo s) (ix v) (ix a)) (va_up (shi s) (ix v) (ix b)) (sho s) (sgv s) (ssg s)) else (-1, s)
def o_home (s : SG) (v p : Int32) : Int32 × SG := if inI v 0 2 && inI p 0 127 then (nI (sho s (ix v)), mkS (sF s) (sn s) (sp s) (slt s) (soc s) (sal s) (std s) (slo s) (shi s) (va_up (sho s) (ix v) (ix p)) (sgv s) (ssg s)) else (-1, s)
def o_leap (s : SG) (n : Int32) : Int32 × SG := if inI n 0 24 then (nI (sp s), mkS (sF s) (sn s) (ix n) (slt s) (soc s) (sal s) (std s) (slo s) (shi s) (sho s) (sgv s) (ssg s)) else (-1, s)
def o_bass (s : SG) (i : Int32) : Int32 := if hasC s i then nI (bN s (ix i)) else -1
theorem sp_Rm_noChord (Post : Int32 → MH → Prop) {s : SG} {mu : Nat → Nat → Int32} (hb : RB s mu) (hw : WF s) (x : Int32) (l : Nat → Int64) : wp_Rm_noChord Post 113 x (Hm mu l) ↔ Post (bI (!hasC s x)) (Hm mu l) := by
  have h12 := hw.n
  unfold wp_Rm_noChord
  simp only [Option.some.injEq, Sum.inl.injEq, Sum.inr.injEq, Prod.mk.injEq, and_assoc, exists_eq_left', exists_eq_left, exists_and_left, exists_and_right, exists_eq', exists_eq, forall_eq, forall_eq', true_and, and_true, exists_const, Hm_1, gC_Rm, gF_Rm_0, fs_Rm_0, gF_Rm_1, fs_Rm_1, gF_Rm_2, fs_Rm_2, gF_Rm_3, gF_Rm_4, gF_Rm_5, gF_Rm_6, gF_Rm_7, gF_Rm_8, gF_Rm_9, gF_Rm_10, fs_Rm_10, gF_Rm_11, gF_Rm_12, gF_Rm_13, gF_Rm_14, gF_Rm_15, gF_Rm_16, gF_Rm_17, gF_Rm_18, gF_Rm_19, fs_Rm_19, gF_Rm_20, gF_Rm_21, gF_Rm_22, gF_Rm_23, gF_Rm_24, fs_Rm_24, gF_Rm_25, gA_Rle, ms_Rle, gA_Roc, ms_Roc, gA_Ral, ms_Ral, gA_Rto, ms_Rto, gA_Rlo, ms_Rlo, gA_Rhi, ms_Rhi, gA_Rho, ms_Rho, gA_Rgi, ms_Rgi, gA_Rha, ms_Rha, gA_Ris, ms_Ris, gA_Rno, ms_Rno, gA_Rbe, ms_Rbe, gA_Rtn, ms_Rtn, gA_Rsu, ms_Rsu, gA_Rfa, ms_Rfa, gA_Rpi, ms_Rpi, gA_Rsi, ms_Rsi, gA_Rre, ms_Rre, gL_Rro, ms_Rro, gA_Rch, ms_Rch, sp_Rm_in, in64, hb.2.1, bI_0, pf1, pf2]
  rw [show nI (sn s) - 1 = iI ((sn s : Int) - 1) by rw [iI_n, show (1 : Int32) = iI 1 from rfl, iI_sub], iI_t (by omega) (by omega)]
  refine iff_of_eq (congrArg (fun z => Post z (Hm mu l)) ?_)
  unfold hasC
  simp only [show ((0 : Int64)).toInt = 0 from rfl]
  by_cases e : 0 ≤ x.toInt ∧ x.toInt < sn s
  · have e2 : 0 ≤ x.toInt ∧ x.toInt ≤ (sn s : Int) - 1 := by omega
    simp [e, e2, bI]
  · have e2 : ¬ (0 ≤ x.toInt ∧ x.toInt ≤ (sn s : Int) - 1) := by omega
    simp only [e, e2, decide_false, Bool.not_false]
    rfl
theorem RR_0 {s : SG} {mu : Nat → Nat → Int32} {l : Nat → Int64} (h : RR s mu l) (v : Int32) : RR s (up mu 113 0 v) l := by
  refine ⟨RB_t h.1 (by decide) v, ?_⟩
  rw [up_j (by decide)]
  rcases h.2 with e | ⟨e, g⟩
  · exact Or.inl e
  · exact Or.inr ⟨e, g.up (by omega) (fun _ => by decide) v⟩
theorem RR_un {s : SG} {mu : Nat → Nat → Int32} {l : Nat → Int64} (h : RB s mu) : RR s (up mu 113 19 0) l := ⟨RB_t h (by decide) 0, Or.inl (up_at ..)⟩
theorem rs_key {Post : Int32 → MH → Prop} {s : SG} {mu : Nat → Nat → Int32} {l : Nat → Int64} (hr : RR s mu l) (hw : WF s) (x : Int32) (hp : ∀ mu2, RR (o_key s x).2 mu2 l → SC mu mu2 → Post (o_key s x).1 (Hm mu2 l)) : wp_Rm_key Post 113 x (Hm mu l) := by
  obtain ⟨hb, -⟩ := id hr
  have hF := hw.1
  unfold wp_Rm_key
  simp only [Option.some.injEq, Sum.inl.injEq, Sum.inr.injEq, Prod.mk.injEq, and_assoc, exists_eq_left', exists_eq_left, exists_and_left, exists_and_right, exists_eq', exists_eq, forall_eq, forall_eq', true_and, and_true, exists_const, Hm_1, gC_Rm, gF_Rm_0, fs_Rm_0, gF_Rm_1, fs_Rm_1, gF_Rm_2, fs_Rm_2, gF_Rm_3, gF_Rm_4, gF_Rm_5, gF_Rm_6, gF_Rm_7, gF_Rm_8, gF_Rm_9, gF_Rm_10, fs_Rm_10, gF_Rm_11, gF_Rm_12, gF_Rm_13, gF_Rm_14, gF_Rm_15, gF_Rm_16, gF_Rm_17, gF_Rm_18, gF_Rm_19, fs_Rm_19, gF_Rm_20, gF_Rm_21, gF_Rm_22, gF_Rm_23, gF_Rm_24, fs_Rm_24, gF_Rm_25, gA_Rle, ms_Rle, gA_Roc, ms_Roc, gA_Ral, ms_Ral, gA_Rto, ms_Rto, gA_Rlo, ms_Rlo, gA_Rhi, ms_Rhi, gA_Rho, ms_Rho, gA_Rgi, ms_Rgi, gA_Rha, ms_Rha, gA_Ris, ms_Ris, gA_Rno, ms_Rno, gA_Rbe, ms_Rbe, gA_Rtn, ms_Rtn, gA_Rsu, ms_Rsu, gA_Rfa, ms_Rfa, gA_Rpi, ms_Rpi, gA_Rsi, ms_Rsi, gA_Rre, ms_Rre, gL_Rro, ms_Rro, gA_Rch, ms_Rch, sp_Rm_in, bI_0, in64, show ((-7 : Int64)).toInt = -7 from rfl, show ((7 : Int64)).toInt = 7 from rfl]
  unfold o_key inI at hp
  by_cases e : -7 ≤ x.toInt ∧ x.toInt ≤ 7
  · simp only [e, decide_true, and_self, if_true] at hp
    refine ⟨fun _ => ?_, fun q => by simp [e] at q⟩
    rw [up_j (by decide), hb.1, show (7 : Int32) = iI 7 from rfl, iI_add]
    refine hp _ (RR_un ⟨?_, ?_, ?_, ?_⟩) (((SC.up mu (by decide) _ _).tr (SC.up _ (by decide) _ _)).tr (SC.up _ (by decide) _ _))
    · rw [up_at]; exact (iI_of x).symm
    · rw [up_j (by decide), up_j (by decide)]; exact hb.2.1
    · rw [up_j (by decide), up_j (by decide)]; exact hb.2.2.1
    · have h2 := hb.2.2.2
      simp only [up_k (show ¬ 114 = 113 by decide), up_k (show ¬ 115 = 113 by decide), up_k (show ¬ 116 = 113 by decide), up_k (show ¬ 117 = 113 by decide), up_k (show ¬ 118 = 113 by decide), up_k (show ¬ 119 = 113 by decide), up_k (show ¬ 120 = 113 by decide), up_k (show ¬ 121 = 113 by decide), up_k (show ¬ 122 = 113 by decide), up_k (show ¬ 123 = 113 by decide)]
      exact h2
  · simp only [e, decide_false] at hp
    refine ⟨fun q => by simp [e] at q, fun _ => ?_⟩
    exact hp _ (RR_0 hr 0) (SC.up mu (by decide) _ _)
