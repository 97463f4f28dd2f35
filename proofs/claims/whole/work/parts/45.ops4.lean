def setTd (s : SG) (i f g : Nat) : SG := mkS (sF s) (sn s) (sp s) (slt s) (soc s) (sal s) (va_up (std s) i (va_up (std s i) f g)) (slo s) (shi s) (sho s) (sgv s) (ssg s)
def o_figure (s : SG) (i f g : Int32) : Int32 × SG := if hasC s i && inI f 2 9 && inI g 0 3 then (if cntW (setTd s (ix i) (ix f) (ix g + 1)) (ix i) 8 ≤ 3 then (nI (cntW (setTd s (ix i) (ix f) (ix g + 1)) (ix i) 8), setTd s (ix i) (ix f) (ix g + 1)) else (-3, s)) else (-1, s)
theorem cntW_le (s : SG) (i : Nat) : ∀ k, cntW s i k ≤ k
  | 0 => Nat.le_refl 0
  | k + 1 => by
    have := cntW_le s i k
    unfold cntW; split <;> omega
theorem RB_td {s : SG} {mu : Nat → Nat → Int32} (hb : RB s mu) {i f : Nat} (hi : i < sn s) (hf : f < 10) (g : Nat) : RB (setTd s i f g) (up mu 117 (10 * i + f) (nI g)) := by
  refine ⟨?_, ?_, ?_, ?_⟩
  · rw [up_k (by decide)]; exact hb.1
  · rw [up_k (by decide)]; exact hb.2.1
  · rw [up_k (by decide)]; exact hb.2.2.1
  · have h4 := hb.2.2.2
    simp only [up_k (show ¬ 113 = 117 by decide), up_k (show ¬ 114 = 117 by decide), up_k (show ¬ 115 = 117 by decide), up_k (show ¬ 116 = 117 by decide), up_k (show ¬ 118 = 117 by decide), up_k (show ¬ 119 = 117 by decide), up_k (show ¬ 120 = 117 by decide), up_k (show ¬ 121 = 117 by decide), up_k (show ¬ 122 = 117 by decide), up_k (show ¬ 123 = 117 by decide), up_k (show ¬ 124 = 117 by decide), up_k (show ¬ 125 = 117 by decide), up_k (show ¬ 126 = 117 by decide), up_k (show ¬ 127 = 117 by decide), up_k (show ¬ 128 = 117 by decide), up_k (show ¬ 129 = 117 by decide), up_k (show ¬ 130 = 117 by decide), up_k (show ¬ 131 = 117 by decide), up_k (show ¬ 132 = 117 by decide), up_k (show ¬ 133 = 117 by decide)]
    refine ⟨h4.1, fun q hq w hw2 => ?_, h4.2.2⟩
    show up mu 117 (10 * i + f) (nI g) 117 (10 * q + w) = nI (va_up (std s) i (va_up (std s i) f g) q w)
    rw [up_ap]
    by_cases eq : q = i
    · subst eq
      rw [va_up_self]
      by_cases ew : w = f
      · subst ew; rw [if_pos ⟨rfl, rfl⟩, va_up_self]
      · rw [if_neg (by omega), va_up_ne _ _ ew]; exact h4.2.1 _ hq w hw2
    · rw [if_neg (by omega), va_up_ne _ _ eq]; exact h4.2.1 _ hq w hw2
theorem rs_figure {Post : Int32 → MH → Prop} {s : SG} {mu : Nat → Nat → Int32} {l : Nat → Int64} (hr : RR s mu l) (hw : WF s) (i f g : Int32) (hp : ∀ mu2, RR (o_figure s i f g).2 mu2 l → SC mu mu2 → Post (o_figure s i f g).1 (Hm mu2 l)) : wp_Rm_figure Post 113 i f g (Hm mu l) := by
  obtain ⟨hb, -⟩ := id hr
  have h0 := RR_0 hr 0
  have h12 := hw.n
  have bad : ∀ r, o_figure s i f g = (r, s) → Post r (Hm (up mu 113 0 0) l) := fun r e => by
    rw [e] at hp; exact hp _ h0 (SC.up mu (by decide) _ _)
  unfold wp_Rm_figure
  simp only [Option.some.injEq, Sum.inl.injEq, Sum.inr.injEq, Prod.mk.injEq, and_assoc, exists_eq_left', exists_eq_left, exists_and_left, exists_and_right, exists_eq', exists_eq, forall_eq, forall_eq', true_and, and_true, exists_const, Hm_1, gF_Rm_0, fs_Rm_0, gC_Rm, sp_Rm_noChord _ h0.1 hw, sp_in2, bI_0, show ((-7 : Int64)).toInt = -7 from rfl, show ((-1 : Int64)).toInt = -1 from rfl, show ((0 : Int64)).toInt = 0 from rfl, show ((1 : Int64)).toInt = 1 from rfl, show ((2 : Int64)).toInt = 2 from rfl, show ((3 : Int64)).toInt = 3 from rfl, show ((5 : Int64)).toInt = 5 from rfl, show ((6 : Int64)).toInt = 6 from rfl, show ((7 : Int64)).toInt = 7 from rfl, show ((9 : Int64)).toInt = 9 from rfl, show ((14 : Int64)).toInt = 14 from rfl, show ((24 : Int64)).toInt = 24 from rfl, show ((127 : Int64)).toInt = 127 from rfl]
  cases e : hasC s i
  · exact ⟨fun _ => bad _ (by simp [o_figure, e]), fun q => by simp at q⟩
  refine ⟨fun q => absurd rfl q, fun _ => ?_⟩
  cases e2 : inI f 2 9
  · exact ⟨fun _ => bad _ (by simp [o_figure, e2]), fun q => absurd rfl q⟩
  refine ⟨fun q => (by cases q), fun _ => ?_⟩
  cases e3 : inI g 0 3
  · exact ⟨fun q => absurd rfl q, fun _ => bad _ (by simp [o_figure, e3])⟩
  refine ⟨fun _ => ?_, fun q => by cases q⟩
  have hi := hasC_ix hw e
  have hf := inI_ix (x := f) (b := 9) (by decide) (by simp [inI] at e2 ⊢; omega)
  have hg := inI_ix (b := 3) (by decide) e3
  rw [hi.1, hf.1, hg.1]
  have ht := hw.td hi.2
  have hf10 : ix f < 10 := by omega
  simp only [Option.some.injEq, Sum.inl.injEq, Sum.inr.injEq, Prod.mk.injEq, and_assoc, exists_eq_left', exists_eq_left, exists_and_left, exists_and_right, exists_eq', exists_eq, forall_eq, forall_eq', true_and, and_true, exists_const, Hm_1, gC_Rm, gF_Rm_0, fs_Rm_0, gF_Rm_1, fs_Rm_1, gF_Rm_2, fs_Rm_2, gF_Rm_3, gF_Rm_4, gF_Rm_5, gF_Rm_6, gF_Rm_7, gF_Rm_8, gF_Rm_9, gF_Rm_10, fs_Rm_10, gF_Rm_11, gF_Rm_12, gF_Rm_13, gF_Rm_14, gF_Rm_15, gF_Rm_16, gF_Rm_17, gF_Rm_18, gF_Rm_19, fs_Rm_19, gF_Rm_20, gF_Rm_21, gF_Rm_22, gF_Rm_23, gF_Rm_24, fs_Rm_24, gF_Rm_25, gA_Rle, ms_Rle, gA_Roc, ms_Roc, gA_Ral, ms_Ral, gA_Rto, ms_Rto, gA_Rlo, ms_Rlo, gA_Rhi, ms_Rhi, gA_Rho, ms_Rho, gA_Rgi, ms_Rgi, gA_Rha, ms_Rha, gA_Ris, ms_Ris, gA_Rno, ms_Rno, gA_Rbe, ms_Rbe, gA_Rtn, ms_Rtn, gA_Rsu, ms_Rsu, gA_Rfa, ms_Rfa, gA_Rpi, ms_Rpi, gA_Rsi, ms_Rsi, gA_Rre, ms_Rre, gL_Rro, ms_Rro, gA_Rch, ms_Rch, show (10 : Int32) = nI 10 from rfl, pk_mul, nI_add, vp_in_nI (show 10 * ix i + ix f < 120 by omega) (show 120 < 2 ^ 31 by decide), nI_clamp (show 10 * ix i + ix f < 2 ^ 31 by omega), nI_1]
  have hb2 := RB_td h0.1 hi.2 hf10 (ix g + 1)
  have h44 : ∀ q, std (setTd s (ix i) (ix f) (ix g + 1)) (ix i) q ≤ 4 := by
    intro q
    show va_up (std s) (ix i) (va_up (std s (ix i)) (ix f) (ix g + 1)) (ix i) q ≤ 4
    rw [va_up_self]
    by_cases eq : q = ix f
    · subst eq; rw [va_up_self]; omega
    · rw [va_up_ne _ _ eq]; exact ht q
  refine sp_Rm_many_i1 _ hb2 (show sn (setTd s (ix i) (ix f) (ix g + 1)) ≤ 12 from h12) h44 (show ix i < sn (setTd s (ix i) (ix f) (ix g + 1)) from hi.2) l ?_
  have hle := cntW_le (setTd s (ix i) (ix f) (ix g + 1)) (ix i) 8
  have hle3 : nI (cntW (setTd s (ix i) (ix f) (ix g + 1)) (ix i) 8) ≤ 3 ↔ cntW (setTd s (ix i) (ix f) (ix g + 1)) (ix i) 8 ≤ 3 := nI_leI (by omega) (by decide)
  simp only [Option.some.injEq, Sum.inl.injEq, Sum.inr.injEq, Prod.mk.injEq, and_assoc, exists_eq_left', exists_eq_left, exists_and_left, exists_and_right, exists_eq', exists_eq, forall_eq, forall_eq', true_and, and_true, exists_const, Hm_1, gC_Rm, gF_Rm_0, fs_Rm_0, gF_Rm_1, fs_Rm_1, gF_Rm_2, fs_Rm_2, gF_Rm_3, gF_Rm_4, gF_Rm_5, gF_Rm_6, gF_Rm_7, gF_Rm_8, gF_Rm_9, gF_Rm_10, fs_Rm_10, gF_Rm_11, gF_Rm_12, gF_Rm_13, gF_Rm_14, gF_Rm_15, gF_Rm_16, gF_Rm_17, gF_Rm_18, gF_Rm_19, fs_Rm_19, gF_Rm_20, gF_Rm_21, gF_Rm_22, gF_Rm_23, gF_Rm_24, fs_Rm_24, gF_Rm_25, gA_Rle, ms_Rle, gA_Roc, ms_Roc, gA_Ral, ms_Ral, gA_Rto, ms_Rto, gA_Rlo, ms_Rlo, gA_Rhi, ms_Rhi, gA_Rho, ms_Rho, gA_Rgi, ms_Rgi, gA_Rha, ms_Rha, gA_Ris, ms_Ris, gA_Rno, ms_Rno, gA_Rbe, ms_Rbe, gA_Rtn, ms_Rtn, gA_Rsu, ms_Rsu, gA_Rfa, ms_Rfa, gA_Rpi, ms_Rpi, gA_Rsi, ms_Rsi, gA_Rre, ms_Rre, gL_Rro, ms_Rro, gA_Rch, ms_Rch, vp_in_nI (show 10 * ix i + ix f < 120 by omega) (show 120 < 2 ^ 31 by decide), nI_clamp (show 10 * ix i + ix f < 2 ^ 31 by omega), hle3]
  unfold o_figure at hp bad
  simp only [e, e2, e3, Bool.and_self, if_true] at hp bad
  by_cases e4 : cntW (setTd s (ix i) (ix f) (ix g + 1)) (ix i) 8 ≤ 3
  · rw [if_pos e4] at hp
    refine ⟨fun _ => ?_, fun q => absurd e4 q⟩
    exact hp _ (RR_un hb2) (((SC.up mu (by decide) _ _).tr (SC.up _ (by decide) _ _)).tr (SC.up _ (by decide) _ _))
  · rw [if_neg e4] at bad
    refine ⟨fun q => absurd q e4, fun _ => ?_⟩
    rw [up_back]
    exact bad _ rfl
def setSg (s : SG) (g : Nat → Option (Nat × Nat × Nat)) : SG := mkS (sF s) (sn s) (sp s) (slt s) (soc s) (sal s) (std s) (slo s) (shi s) (sho s) (sgv s) g
theorem g_tm (s : SG) (g : Nat → Option (Nat × Nat × Nat)) (i k : Nat) : tmI (setSg s g) i k = tmI s i k := by
  induction k with
  | zero => rfl
  | succ k ih => unfold tmI; rw [ih]; rfl
theorem g_sm (s : SG) (g : Nat → Option (Nat × Nat × Nat)) (i k : Nat) : smI (setSg s g) i k = smI s i k := by
  induction k with
  | zero => rfl
  | succ k ih => unfold smI; rw [ih]; rfl
theorem g_fm (s : SG) (g : Nat → Option (Nat × Nat × Nat)) (i k : Nat) : fmI (setSg s g) i k = fmI s i k := by
  induction k with
  | zero => rfl
  | succ k ih => unfold fmI; rw [ih]; rfl
theorem g_al (s : SG) (g : Nat → Option (Nat × Nat × Nat)) (i a b c : Nat) : alone (setSg s g) i a b c = alone s i a b c := by
  have e : okc (setSg s g) i = okc s i := by funext x; unfold okc; rw [g_tm]; rfl
  have e2 : r3 (setSg s g) i a b c = r3 s i a b c := by unfold r3; rw [g_tm]; rfl
  unfold alone r2; rw [e, e2]; rfl
theorem g_Vc (s : SG) (g : Nat → Option (Nat × Nat × Nat)) (i a b n : Nat) : ∀ c, VLc (setSg s g) i a b c n = VLc s i a b c n := by
  induction n with
  | zero => intro c; rfl
  | succ n ih => intro c; unfold VLc; rw [ih, g_al]
theorem g_Vb (s : SG) (g : Nat → Option (Nat × Nat × Nat)) (i a n : Nat) : ∀ b, VLb (setSg s g) i a b n = VLb s i a b n := by
  induction n with
  | zero => intro c; rfl
  | succ n ih => intro c; unfold VLb; rw [ih, g_Vc]; rfl
theorem g_Va (s : SG) (g : Nat → Option (Nat × Nat × Nat)) (i n : Nat) : ∀ a, VLa (setSg s g) i a n = VLa s i a n := by
  induction n with
  | zero => intro c; rfl
  | succ n ih => intro c; unfold VLa; rw [ih, g_Vb]; rfl
theorem g_VL (s : SG) (g : Nat → Option (Nat × Nat × Nat)) (i : Nat) : VL (setSg s g) i = VL s i := g_Va s g i _ _
theorem g_sz (s : SG) (g : Nat → Option (Nat × Nat × Nat)) (i : Nat) : sz (setSg s g) i = sz s i := by unfold sz; rw [g_VL]
theorem g_Vk (s : SG) (g : Nat → Option (Nat × Nat × Nat)) (i k : Nat) : Vk (setSg s g) i k = Vk s i k := by unfold Vk; rw [g_VL]
theorem g_vv (s : SG) (g : Nat → Option (Nat × Nat × Nat)) (i k : Nat) : vv (setSg s g) i k = vv s i k := by unfold vv; rw [g_Vk]; rfl
theorem g_p0 (s : SG) (g : Nat → Option (Nat × Nat × Nat)) (x : Nat → Nat) : pair0 (setSg s g) x = pair0 s x := by unfold pair0 hl0; rw [g_sm]
theorem g_pr (s : SG) (g : Nat → Option (Nat × Nat × Nat)) (i : Nat) (x y : Nat → Nat) : pairR (setSg s g) i x y = pairR s i x y := by
  have e1 : hldA (setSg s g) i x y = hldA s i x y := by unfold hldA hld; rw [g_sm]
  have e2 : flsA (setSg s g) i x y = flsA s i x y := by unfold flsA fls; rw [g_sm, g_fm]
  unfold pairR pairQ; rw [e1, e2]; rfl
theorem g_ok (s : SG) (g : Nat → Option (Nat × Nat × Nat)) (i j k : Nat) : okM (setSg s g) i j k = okM s i j k := by unfold okM; rw [g_pr, g_vv, g_vv]
theorem g_os (s : SG) (g : Nat → Option (Nat × Nat × Nat)) (k : Nat) : okS (setSg s g) k = okS s k := by unfold okS; rw [g_p0, g_vv]
theorem g_Rw (s : SG) (g : Nat → Option (Nat × Nat × Nat)) (i : Nat) : Rw (setSg s g) i = Rw s i := by
  induction i with
  | zero => funext k; unfold Rw; rw [g_os]
  | succ i ih => funext k; unfold Rw; rw [ih, g_sz]; simp only [g_ok]
theorem g_Rs (s : SG) (g : Nat → Option (Nat × Nat × Nat)) (d : Nat) : Rs (setSg s g) d = Rs s d := by
  induction d with
  | zero => rfl
  | succ d ih => funext k; unfold Rs; rw [ih, g_sz]; simp only [g_ok, g_vv]; rfl
theorem g_fl (s : SG) (g : Nat → Option (Nat × Nat × Nat)) (i : Nat) : failT (setSg s g) i = failT s i := by
  have e : ∀ i, some1 (setSg s g) i = some1 s i := fun i => by unfold some1; rw [g_Rw, g_sz]
  induction i with
  | zero => rfl
  | succ i ih => unfold failT; rw [ih, e]
theorem Laid_sg {s : SG} {mu : Nat → Nat → Int32} {l : Nat → Int64} (g : Nat → Option (Nat × Nat × Nat)) (h : Laid s mu l) : Laid (setSg s g) mu l := by
  unfold Laid LD at *
  simp only [g_tm, g_sm, g_fm, g_sz, g_Vk, g_Rw, g_Rs, g_fl]
  exact h
theorem rs_sing {Post : Int32 → MH → Prop} {s : SG} {mu : Nat → Nat → Int32} {l : Nat → Int64} (hr : RR s mu l) (hw : WF s) (i a b c : Int32) (hp : ∀ mu2, RR (o_sing s i a b c).2 mu2 l → SC mu mu2 → Post (o_sing s i a b c).1 (Hm mu2 l)) : wp_Rm_sing Post 113 i a b c (Hm mu l) := by
  obtain ⟨hb, hlaid⟩ := id hr
  have h0 := RR_0 hr 0
  have h12 := hw.n
  have bad : ∀ r, o_sing s i a b c = (r, s) → Post r (Hm (up mu 113 0 0) l) := fun r e => by
    rw [e] at hp; exact hp _ h0 (SC.up mu (by decide) _ _)
  unfold wp_Rm_sing
  simp only [Option.some.injEq, Sum.inl.injEq, Sum.inr.injEq, Prod.mk.injEq, and_assoc, exists_eq_left', exists_eq_left, exists_and_left, exists_and_right, exists_eq', exists_eq, forall_eq, forall_eq', true_and, and_true, exists_const, Hm_1, gF_Rm_0, fs_Rm_0, gC_Rm, sp_Rm_noChord _ h0.1 hw, sp_in2, bI_0, show ((-7 : Int64)).toInt = -7 from rfl, show ((-1 : Int64)).toInt = -1 from rfl, show ((0 : Int64)).toInt = 0 from rfl, show ((1 : Int64)).toInt = 1 from rfl, show ((2 : Int64)).toInt = 2 from rfl, show ((3 : Int64)).toInt = 3 from rfl, show ((5 : Int64)).toInt = 5 from rfl, show ((6 : Int64)).toInt = 6 from rfl, show ((7 : Int64)).toInt = 7 from rfl, show ((9 : Int64)).toInt = 9 from rfl, show ((14 : Int64)).toInt = 14 from rfl, show ((24 : Int64)).toInt = 24 from rfl, show ((127 : Int64)).toInt = 127 from rfl]
  cases e : hasC s i
  · exact ⟨fun _ => bad _ (by simp [o_sing, e]), fun q => by simp at q⟩
  refine ⟨fun q => absurd rfl q, fun _ => ?_⟩
  cases e2 : inI a 0 127
  · exact ⟨fun _ => bad _ (by simp [o_sing, e2]), fun q => absurd rfl q⟩
  refine ⟨fun q => (by cases q), fun _ => ?_⟩
  cases e3 : inI b 0 127
  · exact ⟨fun _ => bad _ (by simp [o_sing, e3]), fun q => absurd rfl q⟩
  refine ⟨fun q => (by cases q), fun _ => ?_⟩
  cases e4 : inI c 0 127
  · exact ⟨fun q => absurd rfl q, fun _ => bad _ (by simp [o_sing, e4])⟩
  refine ⟨fun _ => ?_, fun q => by cases q⟩
  have hi := hasC_ix hw e
  have hA := inI_ix (b := 127) (by decide) e2
  have hB := inI_ix (b := 127) (by decide) e3
  have hC := inI_ix (b := 127) (by decide) e4
  unfold o_sing at hp
  simp only [e, e2, e3, e4, Bool.and_self, if_true] at hp
  rw [hi.1]
  simp only [Option.some.injEq, Sum.inl.injEq, Sum.inr.injEq, Prod.mk.injEq, and_assoc, exists_eq_left', exists_eq_left, exists_and_left, exists_and_right, exists_eq', exists_eq, forall_eq, forall_eq', true_and, and_true, exists_const, Hm_1, gC_Rm, gF_Rm_0, fs_Rm_0, gF_Rm_1, fs_Rm_1, gF_Rm_2, fs_Rm_2, gF_Rm_3, gF_Rm_4, gF_Rm_5, gF_Rm_6, gF_Rm_7, gF_Rm_8, gF_Rm_9, gF_Rm_10, fs_Rm_10, gF_Rm_11, gF_Rm_12, gF_Rm_13, gF_Rm_14, gF_Rm_15, gF_Rm_16, gF_Rm_17, gF_Rm_18, gF_Rm_19, fs_Rm_19, gF_Rm_20, gF_Rm_21, gF_Rm_22, gF_Rm_23, gF_Rm_24, fs_Rm_24, gF_Rm_25, gA_Rle, ms_Rle, gA_Roc, ms_Roc, gA_Ral, ms_Ral, gA_Rto, ms_Rto, gA_Rlo, ms_Rlo, gA_Rhi, ms_Rhi, gA_Rho, ms_Rho, gA_Rgi, ms_Rgi, gA_Rha, ms_Rha, gA_Ris, ms_Ris, gA_Rno, ms_Rno, gA_Rbe, ms_Rbe, gA_Rtn, ms_Rtn, gA_Rsu, ms_Rsu, gA_Rfa, ms_Rfa, gA_Rpi, ms_Rpi, gA_Rsi, ms_Rsi, gA_Rre, ms_Rre, gL_Rro, ms_Rro, gA_Rch, ms_Rch, show (3 : Int32) = nI 3 from rfl, show (1 : Int32) = nI 1 from rfl, show (2 : Int32) = nI 2 from rfl, pk_mul, nI_add, vp_in_nI (show 3 * ix i < 36 by omega) (show 36 < 2 ^ 31 by decide), vp_in_nI (show 3 * ix i + 1 < 36 by omega) (show 36 < 2 ^ 31 by decide), vp_in_nI (show 3 * ix i + 2 < 36 by omega) (show 36 < 2 ^ 31 by decide), vp_in_nI (show ix i < 12 by omega) (show 12 < 2 ^ 31 by decide), nI_clamp (show 3 * ix i < 2 ^ 31 by omega), nI_clamp (show 3 * ix i + 1 < 2 ^ 31 by omega), nI_clamp (show 3 * ix i + 2 < 2 ^ 31 by omega), nI_clamp (show ix i < 2 ^ 31 by omega)]
  refine hp _ ⟨⟨?_, ?_, ?_, ?_⟩, ?_⟩ ((((((SC.up mu (by decide) _ _).tr (SC.up _ (by decide) _ _)).tr (SC.up _ (by decide) _ _)).tr (SC.up _ (by decide) _ _)).tr (SC.up _ (by decide) _ _)))
  · simp only [up_k (show ¬ 113 = 123 by decide), up_k (show ¬ 114 = 123 by decide), up_k (show ¬ 115 = 123 by decide), up_k (show ¬ 116 = 123 by decide), up_k (show ¬ 117 = 123 by decide), up_k (show ¬ 118 = 123 by decide), up_k (show ¬ 119 = 123 by decide), up_k (show ¬ 120 = 123 by decide), up_k (show ¬ 121 = 123 by decide), up_k (show ¬ 122 = 123 by decide), up_k (show ¬ 124 = 123 by decide), up_k (show ¬ 125 = 123 by decide), up_k (show ¬ 126 = 123 by decide), up_k (show ¬ 127 = 123 by decide), up_k (show ¬ 128 = 123 by decide), up_k (show ¬ 129 = 123 by decide), up_k (show ¬ 130 = 123 by decide), up_k (show ¬ 131 = 123 by decide), up_k (show ¬ 132 = 123 by decide), up_k (show ¬ 133 = 123 by decide), up_k (show ¬ 113 = 122 by decide), up_k (show ¬ 114 = 122 by decide), up_k (show ¬ 115 = 122 by decide), up_k (show ¬ 116 = 122 by decide), up_k (show ¬ 117 = 122 by decide), up_k (show ¬ 118 = 122 by decide), up_k (show ¬ 119 = 122 by decide), up_k (show ¬ 120 = 122 by decide), up_k (show ¬ 121 = 122 by decide), up_k (show ¬ 123 = 122 by decide), up_k (show ¬ 124 = 122 by decide), up_k (show ¬ 125 = 122 by decide), up_k (show ¬ 126 = 122 by decide), up_k (show ¬ 127 = 122 by decide), up_k (show ¬ 128 = 122 by decide), up_k (show ¬ 129 = 122 by decide), up_k (show ¬ 130 = 122 by decide), up_k (show ¬ 131 = 122 by decide), up_k (show ¬ 132 = 122 by decide), up_k (show ¬ 133 = 122 by decide)]; rw [up_j (by decide)]; exact hb.1
  · simp only [up_k (show ¬ 113 = 123 by decide), up_k (show ¬ 114 = 123 by decide), up_k (show ¬ 115 = 123 by decide), up_k (show ¬ 116 = 123 by decide), up_k (show ¬ 117 = 123 by decide), up_k (show ¬ 118 = 123 by decide), up_k (show ¬ 119 = 123 by decide), up_k (show ¬ 120 = 123 by decide), up_k (show ¬ 121 = 123 by decide), up_k (show ¬ 122 = 123 by decide), up_k (show ¬ 124 = 123 by decide), up_k (show ¬ 125 = 123 by decide), up_k (show ¬ 126 = 123 by decide), up_k (show ¬ 127 = 123 by decide), up_k (show ¬ 128 = 123 by decide), up_k (show ¬ 129 = 123 by decide), up_k (show ¬ 130 = 123 by decide), up_k (show ¬ 131 = 123 by decide), up_k (show ¬ 132 = 123 by decide), up_k (show ¬ 133 = 123 by decide), up_k (show ¬ 113 = 122 by decide), up_k (show ¬ 114 = 122 by decide), up_k (show ¬ 115 = 122 by decide), up_k (show ¬ 116 = 122 by decide), up_k (show ¬ 117 = 122 by decide), up_k (show ¬ 118 = 122 by decide), up_k (show ¬ 119 = 122 by decide), up_k (show ¬ 120 = 122 by decide), up_k (show ¬ 121 = 122 by decide), up_k (show ¬ 123 = 122 by decide), up_k (show ¬ 124 = 122 by decide), up_k (show ¬ 125 = 122 by decide), up_k (show ¬ 126 = 122 by decide), up_k (show ¬ 127 = 122 by decide), up_k (show ¬ 128 = 122 by decide), up_k (show ¬ 129 = 122 by decide), up_k (show ¬ 130 = 122 by decide), up_k (show ¬ 131 = 122 by decide), up_k (show ¬ 132 = 122 by decide), up_k (show ¬ 133 = 122 by decide)]; rw [up_j (by decide)]; exact hb.2.1
  · simp only [up_k (show ¬ 113 = 123 by decide), up_k (show ¬ 114 = 123 by decide), up_k (show ¬ 115 = 123 by decide), up_k (show ¬ 116 = 123 by decide), up_k (show ¬ 117 = 123 by decide), up_k (show ¬ 118 = 123 by decide), up_k (show ¬ 119 = 123 by decide), up_k (show ¬ 120 = 123 by decide), up_k (show ¬ 121 = 123 by decide), up_k (show ¬ 122 = 123 by decide), up_k (show ¬ 124 = 123 by decide), up_k (show ¬ 125 = 123 by decide), up_k (show ¬ 126 = 123 by decide), up_k (show ¬ 127 = 123 by decide), up_k (show ¬ 128 = 123 by decide), up_k (show ¬ 129 = 123 by decide), up_k (show ¬ 130 = 123 by decide), up_k (show ¬ 131 = 123 by decide), up_k (show ¬ 132 = 123 by decide), up_k (show ¬ 133 = 123 by decide), up_k (show ¬ 113 = 122 by decide), up_k (show ¬ 114 = 122 by decide), up_k (show ¬ 115 = 122 by decide), up_k (show ¬ 116 = 122 by decide), up_k (show ¬ 117 = 122 by decide), up_k (show ¬ 118 = 122 by decide), up_k (show ¬ 119 = 122 by decide), up_k (show ¬ 120 = 122 by decide), up_k (show ¬ 121 = 122 by decide), up_k (show ¬ 123 = 122 by decide), up_k (show ¬ 124 = 122 by decide), up_k (show ¬ 125 = 122 by decide), up_k (show ¬ 126 = 122 by decide), up_k (show ¬ 127 = 122 by decide), up_k (show ¬ 128 = 122 by decide), up_k (show ¬ 129 = 122 by decide), up_k (show ¬ 130 = 122 by decide), up_k (show ¬ 131 = 122 by decide), up_k (show ¬ 132 = 122 by decide), up_k (show ¬ 133 = 122 by decide)]; rw [up_j (by decide)]; exact hb.2.2.1
  · have h4 := hb.2.2.2
    simp only [up_k (show ¬ 113 = 123 by decide), up_k (show ¬ 114 = 123 by decide), up_k (show ¬ 115 = 123 by decide), up_k (show ¬ 116 = 123 by decide), up_k (show ¬ 117 = 123 by decide), up_k (show ¬ 118 = 123 by decide), up_k (show ¬ 119 = 123 by decide), up_k (show ¬ 120 = 123 by decide), up_k (show ¬ 121 = 123 by decide), up_k (show ¬ 122 = 123 by decide), up_k (show ¬ 124 = 123 by decide), up_k (show ¬ 125 = 123 by decide), up_k (show ¬ 126 = 123 by decide), up_k (show ¬ 127 = 123 by decide), up_k (show ¬ 128 = 123 by decide), up_k (show ¬ 129 = 123 by decide), up_k (show ¬ 130 = 123 by decide), up_k (show ¬ 131 = 123 by decide), up_k (show ¬ 132 = 123 by decide), up_k (show ¬ 133 = 123 by decide), up_k (show ¬ 113 = 122 by decide), up_k (show ¬ 114 = 122 by decide), up_k (show ¬ 115 = 122 by decide), up_k (show ¬ 116 = 122 by decide), up_k (show ¬ 117 = 122 by decide), up_k (show ¬ 118 = 122 by decide), up_k (show ¬ 119 = 122 by decide), up_k (show ¬ 120 = 122 by decide), up_k (show ¬ 121 = 122 by decide), up_k (show ¬ 123 = 122 by decide), up_k (show ¬ 124 = 122 by decide), up_k (show ¬ 125 = 122 by decide), up_k (show ¬ 126 = 122 by decide), up_k (show ¬ 127 = 122 by decide), up_k (show ¬ 128 = 122 by decide), up_k (show ¬ 129 = 122 by decide), up_k (show ¬ 130 = 122 by decide), up_k (show ¬ 131 = 122 by decide), up_k (show ¬ 132 = 122 by decide), up_k (show ¬ 133 = 122 by decide), up_k (show ¬ 114 = 113 by decide), up_k (show ¬ 115 = 113 by decide), up_k (show ¬ 116 = 113 by decide), up_k (show ¬ 117 = 113 by decide), up_k (show ¬ 118 = 113 by decide), up_k (show ¬ 119 = 113 by decide), up_k (show ¬ 120 = 113 by decide), up_k (show ¬ 121 = 113 by decide), up_k (show ¬ 122 = 113 by decide), up_k (show ¬ 123 = 113 by decide), up_k (show ¬ 124 = 113 by decide), up_k (show ¬ 125 = 113 by decide), up_k (show ¬ 126 = 113 by decide), up_k (show ¬ 127 = 113 by decide), up_k (show ¬ 128 = 113 by decide), up_k (show ¬ 129 = 113 by decide), up_k (show ¬ 130 = 113 by decide), up_k (show ¬ 131 = 113 by decide), up_k (show ¬ 132 = 113 by decide), up_k (show ¬ 133 = 113 by decide)]
    refine ⟨h4.1, h4.2.1, h4.2.2.1, h4.2.2.2.1, fun q hq => ?_⟩
    show _ = bI (va_up (ssg s) (ix i) (some (ix a, ix b, ix c)) q).isSome ∧ ∀ x y z, va_up (ssg s) (ix i) (some (ix a, ix b, ix c)) q = some (x, y, z) → _
    by_cases eq : q = ix i
    · subst eq
      rw [va_up_self, up_at]
      refine ⟨rfl, fun x y z h => ?_⟩
      simp only [Option.some.injEq, Prod.mk.injEq] at h
      obtain ⟨rfl, rfl, rfl⟩ := h
      refine ⟨?_, ?_, ?_⟩
      · rw [up_j (by omega), up_j (by omega), up_at]; exact hA.1
      · rw [up_j (by omega), up_at]; exact hB.1
      · rw [up_at]; exact hC.1
    · rw [va_up_ne _ _ eq, up_j eq, up_k (by decide), up_k (by decide), up_k (by decide), up_k (by decide)]
      have h5 := h4.2.2.2.2 q hq
      refine ⟨h5.1, fun x y z h => ?_⟩
      have h6 := h5.2 x y z h
      refine ⟨?_, ?_, ?_⟩
      · rw [up_j (by omega), up_j (by omega), up_j (by omega), up_k (by decide)]; exact h6.1
      · rw [up_j (by omega), up_j (by omega), up_j (by omega), up_k (by decide)]; exact h6.2.1
      · rw [up_j (by omega), up_j (by omega), up_j (by omega), up_k (by decide)]; exact h6.2.2
  · simp only [up_k (show ¬ 113 = 123 by decide), up_k (show ¬ 114 = 123 by decide), up_k (show ¬ 115 = 123 by decide), up_k (show ¬ 116 = 123 by decide), up_k (show ¬ 117 = 123 by decide), up_k (show ¬ 118 = 123 by decide), up_k (show ¬ 119 = 123 by decide), up_k (show ¬ 120 = 123 by decide), up_k (show ¬ 121 = 123 by decide), up_k (show ¬ 122 = 123 by decide), up_k (show ¬ 124 = 123 by decide), up_k (show ¬ 125 = 123 by decide), up_k (show ¬ 126 = 123 by decide), up_k (show ¬ 127 = 123 by decide), up_k (show ¬ 128 = 123 by decide), up_k (show ¬ 129 = 123 by decide), up_k (show ¬ 130 = 123 by decide), up_k (show ¬ 131 = 123 by decide), up_k (show ¬ 132 = 123 by decide), up_k (show ¬ 133 = 123 by decide), up_k (show ¬ 113 = 122 by decide), up_k (show ¬ 114 = 122 by decide), up_k (show ¬ 115 = 122 by decide), up_k (show ¬ 116 = 122 by decide), up_k (show ¬ 117 = 122 by decide), up_k (show ¬ 118 = 122 by decide), up_k (show ¬ 119 = 122 by decide), up_k (show ¬ 120 = 122 by decide), up_k (show ¬ 121 = 122 by decide), up_k (show ¬ 123 = 122 by decide), up_k (show ¬ 124 = 122 by decide), up_k (show ¬ 125 = 122 by decide), up_k (show ¬ 126 = 122 by decide), up_k (show ¬ 127 = 122 by decide), up_k (show ¬ 128 = 122 by decide), up_k (show ¬ 129 = 122 by decide), up_k (show ¬ 130 = 122 by decide), up_k (show ¬ 131 = 122 by decide), up_k (show ¬ 132 = 122 by decide), up_k (show ¬ 133 = 122 by decide)]
    rw [up_j (by decide)]
    rcases hlaid with q | ⟨q, g⟩
    · exact Or.inl q
    · refine Or.inr ⟨q, ?_⟩
      exact ((((((Laid_sg _ g).up (by omega) (fun _ => by decide) 0).up (by omega) (by omega) _).up (by omega) (by omega) _).up (by omega) (by omega) _).up (by omega) (by omega) _)
