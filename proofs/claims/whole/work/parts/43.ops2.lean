theorem sp_in2 (Post : Int32 → MH → Prop) (x : Int32) (a b : Int64) (h : MH) : wp_Rm_in Post x.toInt64 a b h ↔ Post (bI (inI x a.toInt b.toInt)) h := by rw [sp_Rm_in, in64]; rfl
def o_given (s : SG) (i v p : Int32) : Int32 × SG := if hasC s i && inI v 0 2 && inI p (-1) 127 then (if 0 ≤ sgv s (ix i) (ix v) then iI (sgv s (ix i) (ix v)) else -2, mkS (sF s) (sn s) (sp s) (slt s) (soc s) (sal s) (std s) (slo s) (shi s) (sho s) (va_up (sgv s) (ix i) (va_up (sgv s (ix i)) (ix v) p.toInt)) (ssg s)) else (-1, s)
def o_sing (s : SG) (i a b c : Int32) : Int32 × SG := if hasC s i && inI a 0 127 && inI b 0 127 && inI c 0 127 then (1, mkS (sF s) (sn s) (sp s) (slt s) (soc s) (sal s) (std s) (slo s) (shi s) (sho s) (sgv s) (va_up (ssg s) (ix i) (some (ix a, ix b, ix c)))) else (-1, s)
theorem bI_nf {b : Bool} (h : ¬ bI b = 0) : b = true := by cases b <;> simp_all [bI]
theorem rs_less {Post : Int32 → MH → Prop} {s : SG} {mu : Nat → Nat → Int32} {l : Nat → Int64} (hr : RR s mu l) (hw : WF s) (hp : ∀ mu2, RR (o_less s).2 mu2 l → SC mu mu2 → Post (o_less s).1 (Hm mu2 l)) : wp_Rm_less Post 113 (Hm mu l) := by
  obtain ⟨hb, -⟩ := id hr
  have h12 := hw.n
  unfold wp_Rm_less
  simp only [Option.some.injEq, Sum.inl.injEq, Sum.inr.injEq, Prod.mk.injEq, and_assoc, exists_eq_left', exists_eq_left, exists_and_left, exists_and_right, exists_eq', exists_eq, forall_eq, forall_eq', true_and, and_true, exists_const, Hm_1, gC_Rm, gF_Rm_0, fs_Rm_0, gF_Rm_1, fs_Rm_1, gF_Rm_2, fs_Rm_2, gF_Rm_3, gF_Rm_4, gF_Rm_5, gF_Rm_6, gF_Rm_7, gF_Rm_8, gF_Rm_9, gF_Rm_10, fs_Rm_10, gF_Rm_11, gF_Rm_12, gF_Rm_13, gF_Rm_14, gF_Rm_15, gF_Rm_16, gF_Rm_17, gF_Rm_18, gF_Rm_19, fs_Rm_19, gF_Rm_20, gF_Rm_21, gF_Rm_22, gF_Rm_23, gF_Rm_24, fs_Rm_24, gF_Rm_25, gA_Rle, ms_Rle, gA_Roc, ms_Roc, gA_Ral, ms_Ral, gA_Rto, ms_Rto, gA_Rlo, ms_Rlo, gA_Rhi, ms_Rhi, gA_Rho, ms_Rho, gA_Rgi, ms_Rgi, gA_Rha, ms_Rha, gA_Ris, ms_Ris, gA_Rno, ms_Rno, gA_Rbe, ms_Rbe, gA_Rtn, ms_Rtn, gA_Rsu, ms_Rsu, gA_Rfa, ms_Rfa, gA_Rpi, ms_Rpi, gA_Rsi, ms_Rsi, gA_Rre, ms_Rre, gL_Rro, ms_Rro, gA_Rch, ms_Rch]
  rw [up_j (by decide), hb.2.1]
  simp only [n_eq0 (show sn s < 2 ^ 31 by omega)]
  unfold o_less at hp
  by_cases e : sn s = 0
  · simp only [e, if_true] at hp ⊢
    exact ⟨fun q => absurd trivial q, fun _ => hp _ (RR_0 hr 0) (SC.up mu (by decide) _ _)⟩
  · simp only [e, if_false] at hp ⊢
    refine ⟨fun _ => ?_, fun q => q.elim⟩
    rw [n_sub1 (by omega), up_j (by decide), up_at]
    refine hp _ (RR_un ⟨?_, ?_, ?_, ?_⟩) (((SC.up mu (by decide) _ _).tr (SC.up _ (by decide) _ _)).tr (SC.up _ (by decide) _ _))
    · rw [up_j (by decide), up_j (by decide)]; exact hb.1
    · rw [up_at]; rfl
    · rw [up_j (by decide), up_j (by decide)]; exact hb.2.2.1
    · simp only [up_k (show ¬ 114 = 113 by decide), up_k (show ¬ 115 = 113 by decide), up_k (show ¬ 116 = 113 by decide), up_k (show ¬ 117 = 113 by decide), up_k (show ¬ 118 = 113 by decide), up_k (show ¬ 119 = 113 by decide), up_k (show ¬ 120 = 113 by decide), up_k (show ¬ 121 = 113 by decide), up_k (show ¬ 122 = 113 by decide), up_k (show ¬ 123 = 113 by decide), up_k (show ¬ 124 = 113 by decide), up_k (show ¬ 125 = 113 by decide), up_k (show ¬ 126 = 113 by decide), up_k (show ¬ 127 = 113 by decide), up_k (show ¬ 128 = 113 by decide), up_k (show ¬ 129 = 113 by decide), up_k (show ¬ 130 = 113 by decide), up_k (show ¬ 131 = 113 by decide), up_k (show ¬ 132 = 113 by decide), up_k (show ¬ 133 = 113 by decide)]
      have h3 := hb.2.2.2
      show (∀ i, i < sn s - 1 → _) ∧ (∀ i, i < sn s - 1 → _) ∧ (∀ v, v < 3 → _) ∧ (∀ i, i < sn s - 1 → _) ∧ (∀ i, i < sn s - 1 → _)
      exact ⟨fun i hi => h3.1 i (by omega), fun i hi => h3.2.1 i (by omega), h3.2.2.1, fun i hi => h3.2.2.2.1 i (by omega), fun i hi => h3.2.2.2.2 i (by omega)⟩
theorem rs_leap {Post : Int32 → MH → Prop} {s : SG} {mu : Nat → Nat → Int32} {l : Nat → Int64} (hr : RR s mu l) (hw : WF s) (x : Int32) (hp : ∀ mu2, RR (o_leap s x).2 mu2 l → SC mu mu2 → Post (o_leap s x).1 (Hm mu2 l)) : wp_Rm_leap Post 113 x (Hm mu l) := by
  obtain ⟨hb, -⟩ := id hr
  unfold wp_Rm_leap
  simp only [Option.some.injEq, Sum.inl.injEq, Sum.inr.injEq, Prod.mk.injEq, and_assoc, exists_eq_left', exists_eq_left, exists_and_left, exists_and_right, exists_eq', exists_eq, forall_eq, forall_eq', true_and, and_true, exists_const, Hm_1, gC_Rm, gF_Rm_0, fs_Rm_0, gF_Rm_1, fs_Rm_1, gF_Rm_2, fs_Rm_2, gF_Rm_3, gF_Rm_4, gF_Rm_5, gF_Rm_6, gF_Rm_7, gF_Rm_8, gF_Rm_9, gF_Rm_10, fs_Rm_10, gF_Rm_11, gF_Rm_12, gF_Rm_13, gF_Rm_14, gF_Rm_15, gF_Rm_16, gF_Rm_17, gF_Rm_18, gF_Rm_19, fs_Rm_19, gF_Rm_20, gF_Rm_21, gF_Rm_22, gF_Rm_23, gF_Rm_24, fs_Rm_24, gF_Rm_25, gA_Rle, ms_Rle, gA_Roc, ms_Roc, gA_Ral, ms_Ral, gA_Rto, ms_Rto, gA_Rlo, ms_Rlo, gA_Rhi, ms_Rhi, gA_Rho, ms_Rho, gA_Rgi, ms_Rgi, gA_Rha, ms_Rha, gA_Ris, ms_Ris, gA_Rno, ms_Rno, gA_Rbe, ms_Rbe, gA_Rtn, ms_Rtn, gA_Rsu, ms_Rsu, gA_Rfa, ms_Rfa, gA_Rpi, ms_Rpi, gA_Rsi, ms_Rsi, gA_Rre, ms_Rre, gL_Rro, ms_Rro, gA_Rch, ms_Rch, sp_in2, bI_0, show ((-7 : Int64)).toInt = -7 from rfl, show ((-1 : Int64)).toInt = -1 from rfl, show ((0 : Int64)).toInt = 0 from rfl, show ((1 : Int64)).toInt = 1 from rfl, show ((2 : Int64)).toInt = 2 from rfl, show ((3 : Int64)).toInt = 3 from rfl, show ((5 : Int64)).toInt = 5 from rfl, show ((6 : Int64)).toInt = 6 from rfl, show ((7 : Int64)).toInt = 7 from rfl, show ((9 : Int64)).toInt = 9 from rfl, show ((14 : Int64)).toInt = 14 from rfl, show ((24 : Int64)).toInt = 24 from rfl, show ((127 : Int64)).toInt = 127 from rfl]
  unfold o_leap at hp
  cases e : inI x 0 24
  · simp only [e, Bool.false_eq_true, if_false] at hp
    exact ⟨fun q => absurd rfl q, fun _ => hp _ (RR_0 hr 0) (SC.up mu (by decide) _ _)⟩
  · simp only [e, if_true] at hp
    refine ⟨fun _ => ?_, fun q => by cases q⟩
    have hx := inI_ix (b := 24) (by decide) e
    rw [up_j (by decide), hb.2.2.1]
    refine hp _ (RR_un ⟨?_, ?_, ?_, ?_⟩) (((SC.up mu (by decide) _ _).tr (SC.up _ (by decide) _ _)).tr (SC.up _ (by decide) _ _))
    · rw [up_j (by decide), up_j (by decide)]; exact hb.1
    · rw [up_j (by decide), up_j (by decide)]; exact hb.2.1
    · rw [up_at]; exact hx.1
    · simp only [up_k (show ¬ 114 = 113 by decide), up_k (show ¬ 115 = 113 by decide), up_k (show ¬ 116 = 113 by decide), up_k (show ¬ 117 = 113 by decide), up_k (show ¬ 118 = 113 by decide), up_k (show ¬ 119 = 113 by decide), up_k (show ¬ 120 = 113 by decide), up_k (show ¬ 121 = 113 by decide), up_k (show ¬ 122 = 113 by decide), up_k (show ¬ 123 = 113 by decide), up_k (show ¬ 124 = 113 by decide), up_k (show ¬ 125 = 113 by decide), up_k (show ¬ 126 = 113 by decide), up_k (show ¬ 127 = 113 by decide), up_k (show ¬ 128 = 113 by decide), up_k (show ¬ 129 = 113 by decide), up_k (show ¬ 130 = 113 by decide), up_k (show ¬ 131 = 113 by decide), up_k (show ¬ 132 = 113 by decide), up_k (show ¬ 133 = 113 by decide)]
      exact hb.2.2.2
theorem rs_bass {Post : Int32 → MH → Prop} {s : SG} {mu : Nat → Nat → Int32} {l : Nat → Int64} (hr : RR s mu l) (hw : WF s) (x : Int32) (hp : ∀ mu2, RR s mu2 l → SC mu mu2 → Post (o_bass s x) (Hm mu2 l)) : wp_Rm_bass Post 113 x (Hm mu l) := by
  have h0 := RR_0 hr 0
  unfold wp_Rm_bass
  simp only [Option.some.injEq, Sum.inl.injEq, Sum.inr.injEq, Prod.mk.injEq, and_assoc, exists_eq_left', exists_eq_left, exists_and_left, exists_and_right, exists_eq', exists_eq, forall_eq, forall_eq', true_and, and_true, exists_const, Hm_1, gC_Rm, gF_Rm_0, fs_Rm_0, gF_Rm_1, fs_Rm_1, gF_Rm_2, fs_Rm_2, gF_Rm_3, gF_Rm_4, gF_Rm_5, gF_Rm_6, gF_Rm_7, gF_Rm_8, gF_Rm_9, gF_Rm_10, fs_Rm_10, gF_Rm_11, gF_Rm_12, gF_Rm_13, gF_Rm_14, gF_Rm_15, gF_Rm_16, gF_Rm_17, gF_Rm_18, gF_Rm_19, fs_Rm_19, gF_Rm_20, gF_Rm_21, gF_Rm_22, gF_Rm_23, gF_Rm_24, fs_Rm_24, gF_Rm_25, gA_Rle, ms_Rle, gA_Roc, ms_Roc, gA_Ral, ms_Ral, gA_Rto, ms_Rto, gA_Rlo, ms_Rlo, gA_Rhi, ms_Rhi, gA_Rho, ms_Rho, gA_Rgi, ms_Rgi, gA_Rha, ms_Rha, gA_Ris, ms_Ris, gA_Rno, ms_Rno, gA_Rbe, ms_Rbe, gA_Rtn, ms_Rtn, gA_Rsu, ms_Rsu, gA_Rfa, ms_Rfa, gA_Rpi, ms_Rpi, gA_Rsi, ms_Rsi, gA_Rre, ms_Rre, gL_Rro, ms_Rro, gA_Rch, ms_Rch, sp_Rm_noChord _ h0.1 hw, bI_0]
  have hq := hp _ h0 (SC.up mu (by decide) _ _)
  unfold o_bass at hq
  cases e : hasC s x
  · rw [e] at hq
    exact ⟨fun q => by simp at q, fun _ => hq⟩
  · rw [e] at hq
    refine ⟨fun _ => ?_, fun q => by simp at q⟩
    have hx := hasC_ix hw e
    rw [hx.1, sp_Rm_bassOf _ h0.1 hw hx.2]
    exact hq
theorem rs_home {Post : Int32 → MH → Prop} {s : SG} {mu : Nat → Nat → Int32} {l : Nat → Int64} (hr : RR s mu l) (hw : WF s) (v p : Int32) (hp : ∀ mu2, RR (o_home s v p).2 mu2 l → SC mu mu2 → Post (o_home s v p).1 (Hm mu2 l)) : wp_Rm_home Post 113 v p (Hm mu l) := by
  obtain ⟨hb, -⟩ := id hr
  unfold wp_Rm_home
  simp only [Option.some.injEq, Sum.inl.injEq, Sum.inr.injEq, Prod.mk.injEq, and_assoc, exists_eq_left', exists_eq_left, exists_and_left, exists_and_right, exists_eq', exists_eq, forall_eq, forall_eq', true_and, and_true, exists_const, Hm_1, gF_Rm_0, fs_Rm_0, sp_in2, bI_0, show ((-7 : Int64)).toInt = -7 from rfl, show ((-1 : Int64)).toInt = -1 from rfl, show ((0 : Int64)).toInt = 0 from rfl, show ((1 : Int64)).toInt = 1 from rfl, show ((2 : Int64)).toInt = 2 from rfl, show ((3 : Int64)).toInt = 3 from rfl, show ((5 : Int64)).toInt = 5 from rfl, show ((6 : Int64)).toInt = 6 from rfl, show ((7 : Int64)).toInt = 7 from rfl, show ((9 : Int64)).toInt = 9 from rfl, show ((14 : Int64)).toInt = 14 from rfl, show ((24 : Int64)).toInt = 24 from rfl, show ((127 : Int64)).toInt = 127 from rfl]
  unfold o_home at hp
  cases e : inI v 0 2
  · simp only [e, Bool.false_and, Bool.false_eq_true, if_false] at hp
    exact ⟨fun _ => hp _ (RR_0 hr 0) (SC.up mu (by decide) _ _), fun q => absurd rfl q⟩
  · refine ⟨fun q => (by cases q), fun _ => ?_⟩
    cases e2 : inI p 0 127
    · simp only [e, e2, Bool.and_false, Bool.false_eq_true, if_false] at hp
      exact ⟨fun q => absurd rfl q, fun _ => hp _ (RR_0 hr 0) (SC.up mu (by decide) _ _)⟩
    · simp only [e, e2, Bool.and_self, if_true] at hp
      refine ⟨fun _ => ?_, fun q => by cases q⟩
      have hv := inI_ix (b := 2) (by decide) e
      have hpp := inI_ix (b := 127) (by decide) e2
      have h3 : ix v < 3 := by omega
      rw [hv.1]
      simp only [Option.some.injEq, Sum.inl.injEq, Sum.inr.injEq, Prod.mk.injEq, and_assoc, exists_eq_left', exists_eq_left, exists_and_left, exists_and_right, exists_eq', exists_eq, forall_eq, forall_eq', true_and, and_true, exists_const, Hm_1, gC_Rm, gF_Rm_0, fs_Rm_0, gF_Rm_1, fs_Rm_1, gF_Rm_2, fs_Rm_2, gF_Rm_3, gF_Rm_4, gF_Rm_5, gF_Rm_6, gF_Rm_7, gF_Rm_8, gF_Rm_9, gF_Rm_10, fs_Rm_10, gF_Rm_11, gF_Rm_12, gF_Rm_13, gF_Rm_14, gF_Rm_15, gF_Rm_16, gF_Rm_17, gF_Rm_18, gF_Rm_19, fs_Rm_19, gF_Rm_20, gF_Rm_21, gF_Rm_22, gF_Rm_23, gF_Rm_24, fs_Rm_24, gF_Rm_25, gA_Rle, ms_Rle, gA_Roc, ms_Roc, gA_Ral, ms_Ral, gA_Rto, ms_Rto, gA_Rlo, ms_Rlo, gA_Rhi, ms_Rhi, gA_Rho, ms_Rho, gA_Rgi, ms_Rgi, gA_Rha, ms_Rha, gA_Ris, ms_Ris, gA_Rno, ms_Rno, gA_Rbe, ms_Rbe, gA_Rtn, ms_Rtn, gA_Rsu, ms_Rsu, gA_Rfa, ms_Rfa, gA_Rpi, ms_Rpi, gA_Rsi, ms_Rsi, gA_Rre, ms_Rre, gL_Rro, ms_Rro, gA_Rch, ms_Rch, vp_in_nI h3 (show 3 < 2 ^ 31 by decide), nI_clamp (show ix v < 2 ^ 31 by omega)]
      rw [up_k (show ¬ 120 = 113 by decide), (hb.2.2.2.2.2.1 _ h3).2.2]
      refine hp _ (RR_un ⟨?_, ?_, ?_, ?_⟩) (((SC.up mu (by decide) _ _).tr (SC.up _ (by decide) _ _)).tr (SC.up _ (by decide) _ _))
      · simp only [up_k (show ¬ 113 = 120 by decide), up_k (show ¬ 114 = 120 by decide), up_k (show ¬ 115 = 120 by decide), up_k (show ¬ 116 = 120 by decide), up_k (show ¬ 117 = 120 by decide), up_k (show ¬ 118 = 120 by decide), up_k (show ¬ 119 = 120 by decide), up_k (show ¬ 121 = 120 by decide), up_k (show ¬ 122 = 120 by decide), up_k (show ¬ 123 = 120 by decide), up_k (show ¬ 124 = 120 by decide), up_k (show ¬ 125 = 120 by decide), up_k (show ¬ 126 = 120 by decide), up_k (show ¬ 127 = 120 by decide), up_k (show ¬ 128 = 120 by decide), up_k (show ¬ 129 = 120 by decide), up_k (show ¬ 130 = 120 by decide), up_k (show ¬ 131 = 120 by decide), up_k (show ¬ 132 = 120 by decide), up_k (show ¬ 133 = 120 by decide)]; rw [up_j (by decide)]; exact hb.1
      · simp only [up_k (show ¬ 113 = 120 by decide), up_k (show ¬ 114 = 120 by decide), up_k (show ¬ 115 = 120 by decide), up_k (show ¬ 116 = 120 by decide), up_k (show ¬ 117 = 120 by decide), up_k (show ¬ 118 = 120 by decide), up_k (show ¬ 119 = 120 by decide), up_k (show ¬ 121 = 120 by decide), up_k (show ¬ 122 = 120 by decide), up_k (show ¬ 123 = 120 by decide), up_k (show ¬ 124 = 120 by decide), up_k (show ¬ 125 = 120 by decide), up_k (show ¬ 126 = 120 by decide), up_k (show ¬ 127 = 120 by decide), up_k (show ¬ 128 = 120 by decide), up_k (show ¬ 129 = 120 by decide), up_k (show ¬ 130 = 120 by decide), up_k (show ¬ 131 = 120 by decide), up_k (show ¬ 132 = 120 by decide), up_k (show ¬ 133 = 120 by decide)]; rw [up_j (by decide)]; exact hb.2.1
      · simp only [up_k (show ¬ 113 = 120 by decide), up_k (show ¬ 114 = 120 by decide), up_k (show ¬ 115 = 120 by decide), up_k (show ¬ 116 = 120 by decide), up_k (show ¬ 117 = 120 by decide), up_k (show ¬ 118 = 120 by decide), up_k (show ¬ 119 = 120 by decide), up_k (show ¬ 121 = 120 by decide), up_k (show ¬ 122 = 120 by decide), up_k (show ¬ 123 = 120 by decide), up_k (show ¬ 124 = 120 by decide), up_k (show ¬ 125 = 120 by decide), up_k (show ¬ 126 = 120 by decide), up_k (show ¬ 127 = 120 by decide), up_k (show ¬ 128 = 120 by decide), up_k (show ¬ 129 = 120 by decide), up_k (show ¬ 130 = 120 by decide), up_k (show ¬ 131 = 120 by decide), up_k (show ¬ 132 = 120 by decide), up_k (show ¬ 133 = 120 by decide)]; rw [up_j (by decide)]; exact hb.2.2.1
      · simp only [up_k (show ¬ 113 = 120 by decide), up_k (show ¬ 114 = 120 by decide), up_k (show ¬ 115 = 120 by decide), up_k (show ¬ 116 = 120 by decide), up_k (show ¬ 117 = 120 by decide), up_k (show ¬ 118 = 120 by decide), up_k (show ¬ 119 = 120 by decide), up_k (show ¬ 121 = 120 by decide), up_k (show ¬ 122 = 120 by decide), up_k (show ¬ 123 = 120 by decide), up_k (show ¬ 124 = 120 by decide), up_k (show ¬ 125 = 120 by decide), up_k (show ¬ 126 = 120 by decide), up_k (show ¬ 127 = 120 by decide), up_k (show ¬ 128 = 120 by decide), up_k (show ¬ 129 = 120 by decide), up_k (show ¬ 130 = 120 by decide), up_k (show ¬ 131 = 120 by decide), up_k (show ¬ 132 = 120 by decide), up_k (show ¬ 133 = 120 by decide), up_k (show ¬ 114 = 113 by decide), up_k (show ¬ 115 = 113 by decide), up_k (show ¬ 116 = 113 by decide), up_k (show ¬ 117 = 113 by decide), up_k (show ¬ 118 = 113 by decide), up_k (show ¬ 119 = 113 by decide), up_k (show ¬ 120 = 113 by decide), up_k (show ¬ 121 = 113 by decide), up_k (show ¬ 122 = 113 by decide), up_k (show ¬ 123 = 113 by decide), up_k (show ¬ 124 = 113 by decide), up_k (show ¬ 125 = 113 by decide), up_k (show ¬ 126 = 113 by decide), up_k (show ¬ 127 = 113 by decide), up_k (show ¬ 128 = 113 by decide), up_k (show ¬ 129 = 113 by decide), up_k (show ¬ 130 = 113 by decide), up_k (show ¬ 131 = 113 by decide), up_k (show ¬ 132 = 113 by decide), up_k (show ¬ 133 = 113 by decide)]
        have h4 := hb.2.2.2
        refine ⟨h4.1, h4.2.1, fun q hq => ⟨(h4.2.2.1 q hq).1, (h4.2.2.1 q hq).2.1, ?_⟩, h4.2.2.2⟩
        show up (up mu 113 0 0) 120 (ix v) p 120 q = nI (va_up (sho s) (ix v) (ix p) q)
        rw [up_ap, up_k (show ¬ 120 = 113 by decide)]
        by_cases eq : q = ix v
        · rw [if_pos ⟨rfl, eq⟩]; subst eq; rw [va_up_self]; exact hpp.1
        · rw [if_neg (fun z => eq z.2), va_up_ne _ _ eq]; exact (h4.2.2.1 q hq).2.2
theorem rs_range {Post : Int32 → MH → Prop} {s : SG} {mu : Nat → Nat → Int32} {l : Nat → Int64} (hr : RR s mu l) (hw : WF s) (v a b : Int32) (hp : ∀ mu2, RR (o_range s v a b).2 mu2 l → SC mu mu2 → Post (o_range s v a b).1 (Hm mu2 l)) : wp_Rm_range Post 113 v a b (Hm mu l) := by
  obtain ⟨hb, -⟩ := id hr
  have bad : o_range s v a b = (-1, s) → Post (-1) (Hm (up mu 113 0 0) l) := fun e => by
    rw [e] at hp; exact hp _ (RR_0 hr 0) (SC.up mu (by decide) _ _)
  unfold wp_Rm_range
  simp only [Option.some.injEq, Sum.inl.injEq, Sum.inr.injEq, Prod.mk.injEq, and_assoc, exists_eq_left', exists_eq_left, exists_and_left, exists_and_right, exists_eq', exists_eq, forall_eq, forall_eq', true_and, and_true, exists_const, Hm_1, gF_Rm_0, fs_Rm_0, sp_in2, bI_0, in64, show ((-7 : Int64)).toInt = -7 from rfl, show ((-1 : Int64)).toInt = -1 from rfl, show ((0 : Int64)).toInt = 0 from rfl, show ((1 : Int64)).toInt = 1 from rfl, show ((2 : Int64)).toInt = 2 from rfl, show ((3 : Int64)).toInt = 3 from rfl, show ((5 : Int64)).toInt = 5 from rfl, show ((6 : Int64)).toInt = 6 from rfl, show ((7 : Int64)).toInt = 7 from rfl, show ((9 : Int64)).toInt = 9 from rfl, show ((14 : Int64)).toInt = 14 from rfl, show ((24 : Int64)).toInt = 24 from rfl, show ((127 : Int64)).toInt = 127 from rfl]
  cases e : inI v 0 2
  · exact ⟨fun _ => bad (by simp [o_range, e]), fun q => absurd rfl q⟩
  refine ⟨fun q => (by cases q), fun _ => ?_⟩
  cases e2 : inI a 0 127
  · exact ⟨fun _ => bad (by simp [o_range, e2]), fun q => absurd rfl q⟩
  refine ⟨fun q => (by cases q), fun _ => ?_⟩
  have ha : 0 ≤ a.toInt ∧ a.toInt ≤ 127 := by simpa [inI] using e2
  cases e3 : inI b a.toInt 127
  · refine ⟨fun _ => bad ?_, fun q => absurd rfl q⟩
    unfold o_range
    rw [if_neg]
    simp only [inI, decide_eq_false_iff_not] at e3
    simp only [inI, Bool.and_eq_true, decide_eq_true_eq]
    omega
  refine ⟨fun q => (by cases q), fun _ => ?_⟩
  have hb3 : a.toInt ≤ b.toInt ∧ b.toInt ≤ 127 := by simpa [inI] using e3
  have hd : (b - a).toInt = b.toInt - a.toInt := by
    rw [← iI_of a, ← iI_of b, iI_sub, iI_t (by omega) (by omega), iI_of, iI_of]
  rw [i_le, hd, show ((24 : Int32)).toInt = 24 from rfl]
  by_cases e4 : b.toInt - a.toInt ≤ 24
  · refine ⟨fun _ => ?_, fun q => absurd e4 q⟩
    have e5 : inI b 0 127 = true := by simp [inI]; omega
    have e6 : decide (a.toInt ≤ b.toInt ∧ b.toInt - a.toInt ≤ 24) = true := by simp; omega
    unfold o_range at hp
    simp only [e, e2, e5, e6, Bool.and_self, if_true] at hp
    have hv := inI_ix (b := 2) (by decide) e
    have hA := inI_ix (b := 127) (by decide) e2
    have hB := inI_ix (b := 127) (by decide) e5
    have h3 : ix v < 3 := by omega
    rw [hv.1]
    simp only [Option.some.injEq, Sum.inl.injEq, Sum.inr.injEq, Prod.mk.injEq, and_assoc, exists_eq_left', exists_eq_left, exists_and_left, exists_and_right, exists_eq', exists_eq, forall_eq, forall_eq', true_and, and_true, exists_const, Hm_1, gC_Rm, gF_Rm_0, fs_Rm_0, gF_Rm_1, fs_Rm_1, gF_Rm_2, fs_Rm_2, gF_Rm_3, gF_Rm_4, gF_Rm_5, gF_Rm_6, gF_Rm_7, gF_Rm_8, gF_Rm_9, gF_Rm_10, fs_Rm_10, gF_Rm_11, gF_Rm_12, gF_Rm_13, gF_Rm_14, gF_Rm_15, gF_Rm_16, gF_Rm_17, gF_Rm_18, gF_Rm_19, fs_Rm_19, gF_Rm_20, gF_Rm_21, gF_Rm_22, gF_Rm_23, gF_Rm_24, fs_Rm_24, gF_Rm_25, gA_Rle, ms_Rle, gA_Roc, ms_Roc, gA_Ral, ms_Ral, gA_Rto, ms_Rto, gA_Rlo, ms_Rlo, gA_Rhi, ms_Rhi, gA_Rho, ms_Rho, gA_Rgi, ms_Rgi, gA_Rha, ms_Rha, gA_Ris, ms_Ris, gA_Rno, ms_Rno, gA_Rbe, ms_Rbe, gA_Rtn, ms_Rtn, gA_Rsu, ms_Rsu, gA_Rfa, ms_Rfa, gA_Rpi, ms_Rpi, gA_Rsi, ms_Rsi, gA_Rre, ms_Rre, gL_Rro, ms_Rro, gA_Rch, ms_Rch, vp_in_nI h3 (show 3 < 2 ^ 31 by decide), nI_clamp (show ix v < 2 ^ 31 by omega)]
    refine hp _ (RR_un ⟨?_, ?_, ?_, ?_⟩) ((((SC.up mu (by decide) _ _).tr (SC.up _ (by decide) _ _)).tr (SC.up _ (by decide) _ _)).tr (SC.up _ (by decide) _ _))
    · simp only [up_k (show ¬ 113 = 119 by decide), up_k (show ¬ 114 = 119 by decide), up_k (show ¬ 115 = 119 by decide), up_k (show ¬ 116 = 119 by decide), up_k (show ¬ 117 = 119 by decide), up_k (show ¬ 118 = 119 by decide), up_k (show ¬ 120 = 119 by decide), up_k (show ¬ 121 = 119 by decide), up_k (show ¬ 122 = 119 by decide), up_k (show ¬ 123 = 119 by decide), up_k (show ¬ 124 = 119 by decide), up_k (show ¬ 125 = 119 by decide), up_k (show ¬ 126 = 119 by decide), up_k (show ¬ 127 = 119 by decide), up_k (show ¬ 128 = 119 by decide), up_k (show ¬ 129 = 119 by decide), up_k (show ¬ 130 = 119 by decide), up_k (show ¬ 131 = 119 by decide), up_k (show ¬ 132 = 119 by decide), up_k (show ¬ 133 = 119 by decide), up_k (show ¬ 113 = 118 by decide), up_k (show ¬ 114 = 118 by decide), up_k (show ¬ 115 = 118 by decide), up_k (show ¬ 116 = 118 by decide), up_k (show ¬ 117 = 118 by decide), up_k (show ¬ 119 = 118 by decide), up_k (show ¬ 120 = 118 by decide), up_k (show ¬ 121 = 118 by decide), up_k (show ¬ 122 = 118 by decide), up_k (show ¬ 123 = 118 by decide), up_k (show ¬ 124 = 118 by decide), up_k (show ¬ 125 = 118 by decide), up_k (show ¬ 126 = 118 by decide), up_k (show ¬ 127 = 118 by decide), up_k (show ¬ 128 = 118 by decide), up_k (show ¬ 129 = 118 by decide), up_k (show ¬ 130 = 118 by decide), up_k (show ¬ 131 = 118 by decide), up_k (show ¬ 132 = 118 by decide), up_k (show ¬ 133 = 118 by decide)]; rw [up_j (by decide)]; exact hb.1
    · simp only [up_k (show ¬ 113 = 119 by decide), up_k (show ¬ 114 = 119 by decide), up_k (show ¬ 115 = 119 by decide), up_k (show ¬ 116 = 119 by decide), up_k (show ¬ 117 = 119 by decide), up_k (show ¬ 118 = 119 by decide), up_k (show ¬ 120 = 119 by decide), up_k (show ¬ 121 = 119 by decide), up_k (show ¬ 122 = 119 by decide), up_k (show ¬ 123 = 119 by decide), up_k (show ¬ 124 = 119 by decide), up_k (show ¬ 125 = 119 by decide), up_k (show ¬ 126 = 119 by decide), up_k (show ¬ 127 = 119 by decide), up_k (show ¬ 128 = 119 by decide), up_k (show ¬ 129 = 119 by decide), up_k (show ¬ 130 = 119 by decide), up_k (show ¬ 131 = 119 by decide), up_k (show ¬ 132 = 119 by decide), up_k (show ¬ 133 = 119 by decide), up_k (show ¬ 113 = 118 by decide), up_k (show ¬ 114 = 118 by decide), up_k (show ¬ 115 = 118 by decide), up_k (show ¬ 116 = 118 by decide), up_k (show ¬ 117 = 118 by decide), up_k (show ¬ 119 = 118 by decide), up_k (show ¬ 120 = 118 by decide), up_k (show ¬ 121 = 118 by decide), up_k (show ¬ 122 = 118 by decide), up_k (show ¬ 123 = 118 by decide), up_k (show ¬ 124 = 118 by decide), up_k (show ¬ 125 = 118 by decide), up_k (show ¬ 126 = 118 by decide), up_k (show ¬ 127 = 118 by decide), up_k (show ¬ 128 = 118 by decide), up_k (show ¬ 129 = 118 by decide), up_k (show ¬ 130 = 118 by decide), up_k (show ¬ 131 = 118 by decide), up_k (show ¬ 132 = 118 by decide), up_k (show ¬ 133 = 118 by decide)]; rw [up_j (by decide)]; exact hb.2.1
    · simp only [up_k (show ¬ 113 = 119 by decide), up_k (show ¬ 114 = 119 by decide), up_k (show ¬ 115 = 119 by decide), up_k (show ¬ 116 = 119 by decide), up_k (show ¬ 117 = 119 by decide), up_k (show ¬ 118 = 119 by decide), up_k (show ¬ 120 = 119 by decide), up_k (show ¬ 121 = 119 by decide), up_k (show ¬ 122 = 119 by decide), up_k (show ¬ 123 = 119 by decide), up_k (show ¬ 124 = 119 by decide), up_k (show ¬ 125 = 119 by decide), up_k (show ¬ 126 = 119 by decide), up_k (show ¬ 127 = 119 by decide), up_k (show ¬ 128 = 119 by decide), up_k (show ¬ 129 = 119 by decide), up_k (show ¬ 130 = 119 by decide), up_k (show ¬ 131 = 119 by decide), up_k (show ¬ 132 = 119 by decide), up_k (show ¬ 133 = 119 by decide), up_k (show ¬ 113 = 118 by decide), up_k (show ¬ 114 = 118 by decide), up_k (show ¬ 115 = 118 by decide), up_k (show ¬ 116 = 118 by decide), up_k (show ¬ 117 = 118 by decide), up_k (show ¬ 119 = 118 by decide), up_k (show ¬ 120 = 118 by decide), up_k (show ¬ 121 = 118 by decide), up_k (show ¬ 122 = 118 by decide), up_k (show ¬ 123 = 118 by decide), up_k (show ¬ 124 = 118 by decide), up_k (show ¬ 125 = 118 by decide), up_k (show ¬ 126 = 118 by decide), up_k (show ¬ 127 = 118 by decide), up_k (show ¬ 128 = 118 by decide), up_k (show ¬ 129 = 118 by decide), up_k (show ¬ 130 = 118 by decide), up_k (show ¬ 131 = 118 by decide), up_k (show ¬ 132 = 118 by decide), up_k (show ¬ 133 = 118 by decide)]; rw [up_j (by decide)]; exact hb.2.2.1
    · simp only [up_k (show ¬ 113 = 119 by decide), up_k (show ¬ 114 = 119 by decide), up_k (show ¬ 115 = 119 by decide), up_k (show ¬ 116 = 119 by decide), up_k (show ¬ 117 = 119 by decide), up_k (show ¬ 118 = 119 by decide), up_k (show ¬ 120 = 119 by decide), up_k (show ¬ 121 = 119 by decide), up_k (show ¬ 122 = 119 by decide), up_k (show ¬ 123 = 119 by decide), up_k (show ¬ 124 = 119 by decide), up_k (show ¬ 125 = 119 by decide), up_k (show ¬ 126 = 119 by decide), up_k (show ¬ 127 = 119 by decide), up_k (show ¬ 128 = 119 by decide), up_k (show ¬ 129 = 119 by decide), up_k (show ¬ 130 = 119 by decide), up_k (show ¬ 131 = 119 by decide), up_k (show ¬ 132 = 119 by decide), up_k (show ¬ 133 = 119 by decide), up_k (show ¬ 113 = 118 by decide), up_k (show ¬ 114 = 118 by decide), up_k (show ¬ 115 = 118 by decide), up_k (show ¬ 116 = 118 by decide), up_k (show ¬ 117 = 118 by decide), up_k (show ¬ 119 = 118 by decide), up_k (show ¬ 120 = 118 by decide), up_k (show ¬ 121 = 118 by decide), up_k (show ¬ 122 = 118 by decide), up_k (show ¬ 123 = 118 by decide), up_k (show ¬ 124 = 118 by decide), up_k (show ¬ 125 = 118 by decide), up_k (show ¬ 126 = 118 by decide), up_k (show ¬ 127 = 118 by decide), up_k (show ¬ 128 = 118 by decide), up_k (show ¬ 129 = 118 by decide), up_k (show ¬ 130 = 118 by decide), up_k (show ¬ 131 = 118 by decide), up_k (show ¬ 132 = 118 by decide), up_k (show ¬ 133 = 118 by decide), up_k (show ¬ 114 = 113 by decide), up_k (show ¬ 115 = 113 by decide), up_k (show ¬ 116 = 113 by decide), up_k (show ¬ 117 = 113 by decide), up_k (show ¬ 118 = 113 by decide), up_k (show ¬ 119 = 113 by decide), up_k (show ¬ 120 = 113 by decide), up_k (show ¬ 121 = 113 by decide), up_k (show ¬ 122 = 113 by decide), up_k (show ¬ 123 = 113 by decide), up_k (show ¬ 124 = 113 by decide), up_k (show ¬ 125 = 113 by decide), up_k (show ¬ 126 = 113 by decide), up_k (show ¬ 127 = 113 by decide), up_k (show ¬ 128 = 113 by decide), up_k (show ¬ 129 = 113 by decide), up_k (show ¬ 130 = 113 by decide), up_k (show ¬ 131 = 113 by decide), up_k (show ¬ 132 = 113 by decide), up_k (show ¬ 133 = 113 by decide)]
      have h4 := hb.2.2.2
      refine ⟨h4.1, h4.2.1, fun q hq => ⟨?_, ?_, (h4.2.2.1 q hq).2.2⟩, h4.2.2.2⟩
      · show up (up mu 113 0 0) 118 (ix v) a 118 q = nI (va_up (slo s) (ix v) (ix a) q)
        rw [up_ap, up_k (show ¬ 118 = 113 by decide)]
        by_cases eq : q = ix v
        · rw [if_pos ⟨rfl, eq⟩]; subst eq; rw [va_up_self]; exact hA.1
        · rw [if_neg (fun z => eq z.2), va_up_ne _ _ eq]; exact (h4.2.2.1 q hq).1
      · show up (up (up mu 113 0 0) 118 (ix v) a) 119 (ix v) b 119 q = nI (va_up (shi s) (ix v) (ix b) q)
        rw [up_ap, up_k (show ¬ 119 = 118 by decide), up_k (show ¬ 119 = 113 by decide)]
        by_cases eq : q = ix v
        · rw [if_pos ⟨rfl, eq⟩]; subst eq; rw [va_up_self]; exact hB.1
        · rw [if_neg (fun z => eq z.2), va_up_ne _ _ eq]; exact (h4.2.2.1 q hq).2.1
  · refine ⟨fun q => absurd q e4, fun _ => bad ?_⟩
    unfold o_range
    rw [if_neg]
    simp only [inI, Bool.and_eq_true, decide_eq_true_eq]
    omega
theorem rs_given {Post : Int32 → MH → Prop} {s : SG} {mu : Nat → Nat → Int32} {l : Nat → Int64} (hr : RR s mu l) (hw : WF s) (i v p : Int32) (hp : ∀ mu2, RR (o_given s i v p).2 mu2 l → SC mu mu2 → Post (o_given s i v p).1 (Hm mu2 l)) : wp_Rm_given Post 113 i v p (Hm mu l) := by
  obtain ⟨hb, -⟩ := id hr
  have h0 := RR_0 hr 0
  have h12 := hw.n
  have bad : o_given s i v p = (-1, s) → Post (-1) (Hm (up mu 113 0 0) l) := fun e => by
    rw [e] at hp; exact hp _ h0 (SC.up mu (by decide) _ _)
  unfold wp_Rm_given
  simp only [Option.some.injEq, Sum.inl.injEq, Sum.inr.injEq, Prod.mk.injEq, and_assoc, exists_eq_left', exists_eq_left, exists_and_left, exists_and_right, exists_eq', exists_eq, forall_eq, forall_eq', true_and, and_true, exists_const, Hm_1, gF_Rm_0, fs_Rm_0, gC_Rm, sp_Rm_noChord _ h0.1 hw, sp_in2, bI_0, show ((-7 : Int64)).toInt = -7 from rfl, show ((-1 : Int64)).toInt = -1 from rfl, show ((0 : Int64)).toInt = 0 from rfl, show ((1 : Int64)).toInt = 1 from rfl, show ((2 : Int64)).toInt = 2 from rfl, show ((3 : Int64)).toInt = 3 from rfl, show ((5 : Int64)).toInt = 5 from rfl, show ((6 : Int64)).toInt = 6 from rfl, show ((7 : Int64)).toInt = 7 from rfl, show ((9 : Int64)).toInt = 9 from rfl, show ((14 : Int64)).toInt = 14 from rfl, show ((24 : Int64)).toInt = 24 from rfl, show ((127 : Int64)).toInt = 127 from rfl]
  cases e : hasC s i
  · exact ⟨fun _ => bad (by simp [o_given, e]), fun q => by simp at q⟩
  refine ⟨fun q => absurd rfl q, fun _ => ?_⟩
  cases e2 : inI v 0 2
  · exact ⟨fun _ => bad (by simp [o_given, e2]), fun q => absurd rfl q⟩
  refine ⟨fun q => (by cases q), fun _ => ?_⟩
  cases e3 : inI p (-1) 127
  · exact ⟨fun q => absurd rfl q, fun _ => bad (by simp [o_given, e3])⟩
  refine ⟨fun _ => ?_, fun q => by cases q⟩
  have hi := hasC_ix hw e
  have hv := inI_ix (b := 2) (by decide) e2
  have h3 : ix v < 3 := by omega
  have hg := hw.2.2.2.2.2.2.1 _ hi.2 _ h3
  unfold o_given at hp
  simp only [e, e2, e3, Bool.and_self, if_true] at hp
  rw [hi.1, hv.1]
  simp only [Option.some.injEq, Sum.inl.injEq, Sum.inr.injEq, Prod.mk.injEq, and_assoc, exists_eq_left', exists_eq_left, exists_and_left, exists_and_right, exists_eq', exists_eq, forall_eq, forall_eq', true_and, and_true, exists_const, Hm_1, gC_Rm, gF_Rm_0, fs_Rm_0, gF_Rm_1, fs_Rm_1, gF_Rm_2, fs_Rm_2, gF_Rm_3, gF_Rm_4, gF_Rm_5, gF_Rm_6, gF_Rm_7, gF_Rm_8, gF_Rm_9, gF_Rm_10, fs_Rm_10, gF_Rm_11, gF_Rm_12, gF_Rm_13, gF_Rm_14, gF_Rm_15, gF_Rm_16, gF_Rm_17, gF_Rm_18, gF_Rm_19, fs_Rm_19, gF_Rm_20, gF_Rm_21, gF_Rm_22, gF_Rm_23, gF_Rm_24, fs_Rm_24, gF_Rm_25, gA_Rle, ms_Rle, gA_Roc, ms_Roc, gA_Ral, ms_Ral, gA_Rto, ms_Rto, gA_Rlo, ms_Rlo, gA_Rhi, ms_Rhi, gA_Rho, ms_Rho, gA_Rgi, ms_Rgi, gA_Rha, ms_Rha, gA_Ris, ms_Ris, gA_Rno, ms_Rno, gA_Rbe, ms_Rbe, gA_Rtn, ms_Rtn, gA_Rsu, ms_Rsu, gA_Rfa, ms_Rfa, gA_Rpi, ms_Rpi, gA_Rsi, ms_Rsi, gA_Rre, ms_Rre, gL_Rro, ms_Rro, gA_Rch, ms_Rch, show (3 : Int32) = nI 3 from rfl, pk_mul, nI_add, vp_in_nI (show 3 * ix i + ix v < 36 by omega) (show 36 < 2 ^ 31 by decide), nI_clamp (show 3 * ix i + ix v < 2 ^ 31 by omega)]
  have eg : up mu 113 0 0 121 (3 * ix i + ix v) = iI (sgv s (ix i) (ix v)) := by
    rw [up_k (show ¬ 121 = 113 by decide)]; exact hb.2.2.2.2.2.2.1 _ hi.2 _ h3
  rw [eg, show (0 : Int32) = iI 0 from rfl, iI_le (by omega) (by omega) (by omega) (by omega)]
  have key : RR (mkS (sF s) (sn s) (sp s) (slt s) (soc s) (sal s) (std s) (slo s) (shi s) (sho s) (va_up (sgv s) (ix i) (va_up (sgv s (ix i)) (ix v) p.toInt)) (ssg s)) (up (up (up mu 113 0 0) 121 (3 * ix i + ix v) p) 113 19 0) l := by
    refine RR_un ⟨?_, ?_, ?_, ?_⟩
    · simp only [up_k (show ¬ 113 = 121 by decide), up_k (show ¬ 114 = 121 by decide), up_k (show ¬ 115 = 121 by decide), up_k (show ¬ 116 = 121 by decide), up_k (show ¬ 117 = 121 by decide), up_k (show ¬ 118 = 121 by decide), up_k (show ¬ 119 = 121 by decide), up_k (show ¬ 120 = 121 by decide), up_k (show ¬ 122 = 121 by decide), up_k (show ¬ 123 = 121 by decide), up_k (show ¬ 124 = 121 by decide), up_k (show ¬ 125 = 121 by decide), up_k (show ¬ 126 = 121 by decide), up_k (show ¬ 127 = 121 by decide), up_k (show ¬ 128 = 121 by decide), up_k (show ¬ 129 = 121 by decide), up_k (show ¬ 130 = 121 by decide), up_k (show ¬ 131 = 121 by decide), up_k (show ¬ 132 = 121 by decide), up_k (show ¬ 133 = 121 by decide)]; rw [up_j (by decide)]; exact hb.1
    · simp only [up_k (show ¬ 113 = 121 by decide), up_k (show ¬ 114 = 121 by decide), up_k (show ¬ 115 = 121 by decide), up_k (show ¬ 116 = 121 by decide), up_k (show ¬ 117 = 121 by decide), up_k (show ¬ 118 = 121 by decide), up_k (show ¬ 119 = 121 by decide), up_k (show ¬ 120 = 121 by decide), up_k (show ¬ 122 = 121 by decide), up_k (show ¬ 123 = 121 by decide), up_k (show ¬ 124 = 121 by decide), up_k (show ¬ 125 = 121 by decide), up_k (show ¬ 126 = 121 by decide), up_k (show ¬ 127 = 121 by decide), up_k (show ¬ 128 = 121 by decide), up_k (show ¬ 129 = 121 by decide), up_k (show ¬ 130 = 121 by decide), up_k (show ¬ 131 = 121 by decide), up_k (show ¬ 132 = 121 by decide), up_k (show ¬ 133 = 121 by decide)]; rw [up_j (by decide)]; exact hb.2.1
    · simp only [up_k (show ¬ 113 = 121 by decide), up_k (show ¬ 114 = 121 by decide), up_k (show ¬ 115 = 121 by decide), up_k (show ¬ 116 = 121 by decide), up_k (show ¬ 117 = 121 by decide), up_k (show ¬ 118 = 121 by decide), up_k (show ¬ 119 = 121 by decide), up_k (show ¬ 120 = 121 by decide), up_k (show ¬ 122 = 121 by decide), up_k (show ¬ 123 = 121 by decide), up_k (show ¬ 124 = 121 by decide), up_k (show ¬ 125 = 121 by decide), up_k (show ¬ 126 = 121 by decide), up_k (show ¬ 127 = 121 by decide), up_k (show ¬ 128 = 121 by decide), up_k (show ¬ 129 = 121 by decide), up_k (show ¬ 130 = 121 by decide), up_k (show ¬ 131 = 121 by decide), up_k (show ¬ 132 = 121 by decide), up_k (show ¬ 133 = 121 by decide)]; rw [up_j (by decide)]; exact hb.2.2.1
    · simp only [up_k (show ¬ 113 = 121 by decide), up_k (show ¬ 114 = 121 by decide), up_k (show ¬ 115 = 121 by decide), up_k (show ¬ 116 = 121 by decide), up_k (show ¬ 117 = 121 by decide), up_k (show ¬ 118 = 121 by decide), up_k (show ¬ 119 = 121 by decide), up_k (show ¬ 120 = 121 by decide), up_k (show ¬ 122 = 121 by decide), up_k (show ¬ 123 = 121 by decide), up_k (show ¬ 124 = 121 by decide), up_k (show ¬ 125 = 121 by decide), up_k (show ¬ 126 = 121 by decide), up_k (show ¬ 127 = 121 by decide), up_k (show ¬ 128 = 121 by decide), up_k (show ¬ 129 = 121 by decide), up_k (show ¬ 130 = 121 by decide), up_k (show ¬ 131 = 121 by decide), up_k (show ¬ 132 = 121 by decide), up_k (show ¬ 133 = 121 by decide), up_k (show ¬ 114 = 113 by decide), up_k (show ¬ 115 = 113 by decide), up_k (show ¬ 116 = 113 by decide), up_k (show ¬ 117 = 113 by decide), up_k (show ¬ 118 = 113 by decide), up_k (show ¬ 119 = 113 by decide), up_k (show ¬ 120 = 113 by decide), up_k (show ¬ 121 = 113 by decide), up_k (show ¬ 122 = 113 by decide), up_k (show ¬ 123 = 113 by decide), up_k (show ¬ 124 = 113 by decide), up_k (show ¬ 125 = 113 by decide), up_k (show ¬ 126 = 113 by decide), up_k (show ¬ 127 = 113 by decide), up_k (show ¬ 128 = 113 by decide), up_k (show ¬ 129 = 113 by decide), up_k (show ¬ 130 = 113 by decide), up_k (show ¬ 131 = 113 by decide), up_k (show ¬ 132 = 113 by decide), up_k (show ¬ 133 = 113 by decide)]
      have h4 := hb.2.2.2
      refine ⟨h4.1, h4.2.1, h4.2.2.1, fun q hq w hw2 => ?_, h4.2.2.2.2⟩
      show up (up mu 113 0 0) 121 (3 * ix i + ix v) p 121 (3 * q + w) = iI (va_up (sgv s) (ix i) (va_up (sgv s (ix i)) (ix v) p.toInt) q w)
      rw [up_ap, up_k (show ¬ 121 = 113 by decide)]
      by_cases eq : q = ix i
      · subst eq
        rw [va_up_self]
        by_cases ew : w = ix v
        · subst ew; rw [if_pos ⟨rfl, rfl⟩, va_up_self]; exact (iI_of p).symm
        · rw [if_neg (by omega), va_up_ne _ _ ew]; exact h4.2.2.2.1 _ hq w hw2
      · rw [if_neg (by omega), va_up_ne _ _ eq]; exact h4.2.2.2.1 _ hq w hw2
  have sc : SC mu (up (up (up mu 113 0 0) 121 (3 * ix i + ix v) p) 113 19 0) := ((SC.up mu (by decide) _ _).tr (SC.up _ (by decide) _ _)).tr (SC.up _ (by decide) _ _)
  have hq := hp _ key sc
  by_cases e0 : 0 ≤ sgv s (ix i) (ix v)
  · rw [if_pos e0] at hq; exact ⟨fun _ => hq, fun q => absurd e0 q⟩
  · rw [if_neg e0] at hq; exact ⟨fun q => absurd q e0, fun _ => hq⟩
