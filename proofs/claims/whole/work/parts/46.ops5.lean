def xt (s : SG) (i : Nat) (t : Option (Nat × Nat × Nat)) : Nat → Nat := xv s i (t.getD (0, 0, 0))
def faultN (s : SG) (i : Nat) : Nat := match ssg s i with
  | none => 0
  | some t => if alone s i t.1 t.2.1 t.2.2 = 0 then (if i = 0 then pair0 s (xv s i t) else if (ssg s (i - 1)).isSome then pairR s i (xv s i t) (xt s (i - 1) (ssg s (i - 1))) else 0) else alone s i t.1 t.2.1 t.2.2
theorem r7_le (s : SG) (i a b c : Nat) : r7 s i a b c ≤ 7 := by unfold r7; split <;> omega
theorem alone_le (s : SG) (i a b c : Nat) : alone s i a b c ≤ 7 := by
  have h7 := r7_le s i a b c
  have h6 : r6 s i a b c ≤ 7 := by unfold r6; split <;> omega
  have h5 : r5 s i a b c ≤ 7 := by unfold r5; split <;> omega
  have h4 : r4 s i a b c ≤ 7 := by unfold r4; split <;> omega
  have h3 : r3 s i a b c ≤ 7 := by unfold r3; split <;> omega
  have h2 : r2 s i a b c ≤ 7 := by unfold r2; split <;> omega
  unfold alone; split <;> omega
theorem pairR_le (s : SG) (i : Nat) (x y : Nat → Nat) : pairR s i x y ≤ 11 := by
  unfold pairR pairQ; repeat' split
  all_goals omega
theorem pair0_le (s : SG) (x : Nat → Nat) : pair0 s x ≤ 11 := by unfold pair0; split <;> omega
theorem xv_rg {s : SG} (hw : WF s) {i : Nat} (hi : i < sn s) {a b c : Nat} (hs : ssg s i = some (a, b, c)) : ∀ v, v < 4 → xv s i (a, b, c) v ≤ 127 := by
  have h := hw.2.2.2.2.2.2.2 i hi a b c hs
  have hd := bN_rg hw hi
  intro v hv
  match v, hv with
  | 0, _ => exact h.1
  | 1, _ => exact h.2.1
  | 2, _ => exact h.2.2
  | 3, _ => show bN s i ≤ 127; omega
def Mk (s : SG) (mu mu2 : Nat → Nat → Int32) : Prop := (∀ k, ¬ (124 ≤ k ∧ k ≤ 128) → mu2 k = mu k) ∧ ∀ k j, 126 ≤ k → k ≤ 128 → mu2 k j = mu k j ∨ (j < sn s ∧ mu2 k j = (if k = 126 then tmI s j 8 else if k = 127 then smI s j 8 else fmI s j 8))
theorem Mk_rf (s : SG) (mu : Nat → Nat → Int32) : Mk s mu mu := ⟨fun _ _ => rfl, fun _ _ _ _ => Or.inl rfl⟩
theorem Mk.tr {s : SG} {a b c : Nat → Nat → Int32} (h : Mk s a b) (g : Mk s b c) : Mk s a c := by
  refine ⟨fun k hk => (g.1 k hk).trans (h.1 k hk), fun k j h1 h2 => ?_⟩
  rcases g.2 k j h1 h2 with e | e
  · rw [e]; exact h.2 k j h1 h2
  · exact Or.inr e
theorem Mk_s4 (s : SG) (mu : Nat → Nat → Int32) {k : Nat} (hk : k = 124 ∨ k = 125) (a b c d : Int32) : Mk s mu (set4 mu k a b c d) := ⟨fun q hq => set4_k (by omega), fun q j h1 h2 => Or.inl (by rw [set4_k (by omega)])⟩
theorem Mk_L3 (s : SG) (mu : Nat → Nat → Int32) {i : Nat} (hi : i < sn s) : Mk s mu (L3 mu i (tmI s i 8) (smI s i 8) (fmI s i 8)) := by
  unfold L3
  refine ⟨fun q hq => by rw [up_k (by omega), up_k (by omega), up_k (by omega)], fun q j h1 h2 => ?_⟩
  by_cases ej : j = i
  · subst ej
    right
    refine ⟨hi, ?_⟩
    rcases (show q = 126 ∨ q = 127 ∨ q = 128 by omega) with rfl | rfl | rfl <;> simp [up_ap]
  · left
    rcases (show q = 126 ∨ q = 127 ∨ q = 128 by omega) with rfl | rfl | rfl <;> simp [up_ap, ej]
theorem RR_Mk {s : SG} {mu mu2 : Nat → Nat → Int32} {l : Nat → Int64} (h : RR s mu l) (m : Mk s mu mu2) : RR s mu2 l := by
  have e := fun k hk => m.1 k hk
  refine ⟨RB_of h.1 (by rw [e 113 (by omega)]) (by rw [e 113 (by omega)]) (by rw [e 113 (by omega)]) (fun k h1 h2 => e k (by omega)), ?_⟩
  rw [e 113 (by omega)]
  rcases h.2 with q | ⟨q, g⟩
  · exact Or.inl q
  · refine Or.inr ⟨q, ?_⟩
    unfold Laid LD at *
    rw [e 129 (by omega), e 130 (by omega), e 131 (by omega), e 113 (by omega)]
    refine ⟨fun i hi => ?_, g.2⟩
    have gi := g.1 i hi
    refine ⟨?_, ?_, ?_⟩
    · rcases m.2 126 i (by omega) (by omega) with z | z
      · rw [z]; exact gi.1
      · rw [z.2]; rfl
    · rcases m.2 127 i (by omega) (by omega) with z | z
      · rw [z]; exact gi.2.1
      · rw [z.2]; rfl
    · rcases m.2 128 i (by omega) (by omega) with z | z
      · rw [z]; exact gi.2.2
      · rw [z.2]; rfl
theorem SC_Mk {s : SG} {mu mu2 : Nat → Nat → Int32} (m : Mk s mu mu2) : SC mu mu2 := fun k hk => m.1 k (by omega)
theorem Row_now {mu : Nat → Nat → Int32} {x : Nat → Nat} (h : Row mu 124 x) : Now mu (x 0) (x 1) (x 2) (x 3) := ⟨(h 0 (by decide)).1, (h 1 (by decide)).1, (h 2 (by decide)).1, (h 3 (by decide)).1⟩
theorem Row_k {mu mu2 : Nat → Nat → Int32} {k : Nat} {x : Nat → Nat} (h : Row mu k x) (e : mu2 k = mu k) : Row mu2 k x := fun v hv => by rw [e]; exact h v hv
set_option maxHeartbeats 1000000 in
theorem sp_Rm_faultOf {Post : Int32 → MH → Prop} {s : SG} {mu : Nat → Nat → Int32} {l : Nat → Int64} (hb : RB s mu) (hw : WF s) {i : Nat} (hi : i < sn s) {a b c : Nat} (hs : ssg s i = some (a, b, c)) (hp : ∀ mu2, Mk s mu mu2 → Row mu2 124 (xv s i (a, b, c)) → (0 < i → (ssg s (i - 1)).isSome = true → alone s i a b c = 0 → Row mu2 125 (xt s (i - 1) (ssg s (i - 1)))) → Post (nI (faultN s i)) (Hm mu2 l)) : wp_Rm_faultOf Post 113 (nI i) (Hm mu l) := by
  have h12 := hw.n
  have hx := xv_rg hw hi hs
  have hal := alone_le s i a b c
  unfold wp_Rm_faultOf
  simp only [Option.some.injEq, Sum.inl.injEq, Sum.inr.injEq, Prod.mk.injEq, and_assoc, exists_eq_left', exists_eq_left, exists_and_left, exists_and_right, exists_eq', exists_eq, forall_eq, forall_eq', true_and, and_true, exists_const, Hm_1, gF_Rm_14, gC_Rm]
  refine sp_Rm_takeSung hb hw hi hs (Or.inl rfl) ?_
  refine ⟨gC_Rm _ l, ?_⟩
  have hb1 := RB_set4 hb (k := 124) (by omega) (nI a) (nI b) (nI c) (nI (bN s i))
  refine sp_Rm_look _ hb1 hw hi l ?_
  have hb2 := RB_L3 hb1 i (tmI s i 8) (smI s i 8) (fmI s i 8)
  have m2 : Mk s mu (L3 (set4 mu 124 (nI a) (nI b) (nI c) (nI (bN s i))) i (tmI s i 8) (smI s i 8) (fmI s i 8)) := (Mk_s4 s mu (Or.inl rfl) _ _ _ _).tr (Mk_L3 s _ hi)
  have row1 : Row (set4 mu 124 (nI a) (nI b) (nI c) (nI (bN s i))) 124 (xv s i (a, b, c)) := set4_row (x := xv s i (a, b, c)) hx
  have hm2 : Msk s (L3 (set4 mu 124 (nI a) (nI b) (nI c) (nI (bN s i))) i (tmI s i 8) (smI s i 8) (fmI s i 8)) i := ⟨L3_r2 .., L3_r3 ..⟩
  have ht2 : L3 (set4 mu 124 (nI a) (nI b) (nI c) (nI (bN s i))) i (tmI s i 8) (smI s i 8) (fmI s i 8) 126 i = tmI s i 8 := L3_r1 ..
  have row2 : Row (L3 (set4 mu 124 (nI a) (nI b) (nI c) (nI (bN s i))) i (tmI s i 8) (smI s i 8) (fmI s i 8)) 124 (xv s i (a, b, c)) := Row_k row1 (by unfold L3; rw [up_k (by decide), up_k (by decide), up_k (by decide)])
  generalize L3 (set4 mu 124 (nI a) (nI b) (nI c) (nI (bN s i))) i (tmI s i 8) (smI s i 8) (fmI s i 8) = m at hb2 m2 hm2 ht2 row2 ⊢
  refine ⟨gC_Rm _ l, ?_⟩
  have g := hw.2.2.2.2.2.2.2 i hi a b c hs
  refine sp_Rm_aloneRule (a := a) (b := b) (c := c) hb2 hw hi (Row_now row2) g.1 g.2.1 g.2.2 ht2 ?_
  rw [n_le0 (by omega)]
  unfold faultN at hp
  simp only [hs] at hp
  by_cases e0 : alone s i a b c = 0
  · refine ⟨fun _ => ?_, fun q => absurd e0 q⟩
    simp only [e0, if_true] at hp
    rw [n_le0 (show i < 2 ^ 31 by omega)]
    unfold wp_Rm_faultOf_43 wp_Rm_faultOf_65
    rw [n_le0 (show i < 2 ^ 31 by omega)]
    by_cases ei : i = 0
    · subst ei
      refine ⟨fun _ => ⟨fun _ => ⟨gC_Rm _ l, ?_⟩, fun q => absurd rfl q⟩, fun q => absurd rfl q⟩
      refine sp_Rm_pair0 hm2 row2 ?_
      exact hp _ m2 row2 (fun q => absurd q (by omega))
    · refine ⟨fun q => absurd q ei, fun _ => ?_⟩
      simp only [ei, if_false] at hp
      simp only [Option.some.injEq, Sum.inl.injEq, Sum.inr.injEq, Prod.mk.injEq, and_assoc, exists_eq_left', exists_eq_left, exists_and_left, exists_and_right, exists_eq', exists_eq, forall_eq, forall_eq', true_and, and_true, exists_const, Hm_1, gC_Rm, gF_Rm_0, fs_Rm_0, gF_Rm_1, fs_Rm_1, gF_Rm_2, fs_Rm_2, gF_Rm_3, gF_Rm_4, gF_Rm_5, gF_Rm_6, gF_Rm_7, gF_Rm_8, gF_Rm_9, gF_Rm_10, fs_Rm_10, gF_Rm_11, gF_Rm_12, gF_Rm_13, gF_Rm_14, gF_Rm_15, gF_Rm_16, gF_Rm_17, gF_Rm_18, gF_Rm_19, fs_Rm_19, gF_Rm_20, gF_Rm_21, gF_Rm_22, gF_Rm_23, gF_Rm_24, fs_Rm_24, gF_Rm_25, gA_Rle, ms_Rle, gA_Roc, ms_Roc, gA_Ral, ms_Ral, gA_Rto, ms_Rto, gA_Rlo, ms_Rlo, gA_Rhi, ms_Rhi, gA_Rho, ms_Rho, gA_Rgi, ms_Rgi, gA_Rha, ms_Rha, gA_Ris, ms_Ris, gA_Rno, ms_Rno, gA_Rbe, ms_Rbe, gA_Rtn, ms_Rtn, gA_Rsu, ms_Rsu, gA_Rfa, ms_Rfa, gA_Rpi, ms_Rpi, gA_Rsi, ms_Rsi, gA_Rre, ms_Rre, gL_Rro, ms_Rro, gA_Rch, ms_Rch, n_sub1 (show 1 ≤ i by omega), vp_in_nI (show i - 1 < 12 by omega) (show 12 < 2 ^ 31 by decide), nI_clamp (show i - 1 < 2 ^ 31 by omega), (hb2.2.2.2.2.2.2.2 (i - 1) (by omega)).1, bI_0]
      cases es : ssg s (i - 1) with
      | none =>
        refine ⟨fun q => absurd rfl q, fun _ => ?_⟩
        rw [es] at hp
        exact hp _ m2 row2 (fun _ q => by cases q)
      | some t =>
        obtain ⟨a1, b1, c1⟩ := t
        refine ⟨fun _ => ⟨fun q => absurd q ei, fun _ => ?_⟩, fun q => by cases q⟩
        rw [es] at hp
        simp only [Option.isSome_some, if_true] at hp
        have hx1 := xv_rg hw (show i - 1 < sn s by omega) es
        refine sp_Rm_takeSung hb2 hw (show i - 1 < sn s by omega) es (Or.inr (Or.inl rfl)) ?_
        refine ⟨gC_Rm _ l, ?_⟩
        have hb3 := RB_set4 hb2 (k := 125) (by omega) (nI a1) (nI b1) (nI c1) (nI (bN s (i - 1)))
        refine sp_Rm_look _ hb3 hw (show i - 1 < sn s by omega) l ?_
        refine ⟨gC_Rm _ l, ?_⟩
        have rowB : Row (set4 m 125 (nI a1) (nI b1) (nI c1) (nI (bN s (i - 1)))) 125 (xv s (i - 1) (a1, b1, c1)) := set4_row (x := xv s (i - 1) (a1, b1, c1)) hx1
        have l3k : ∀ q, ¬ q = 126 → ¬ q = 127 → ¬ q = 128 → L3 (set4 m 125 (nI a1) (nI b1) (nI c1) (nI (bN s (i - 1)))) (i - 1) (tmI s (i - 1) 8) (smI s (i - 1) 8) (fmI s (i - 1) 8) q = set4 m 125 (nI a1) (nI b1) (nI c1) (nI (bN s (i - 1))) q := fun q g1 g2 g3 => by unfold L3; rw [up_k g3, up_k g2, up_k g1]
        have hmA : Msk s (L3 (set4 m 125 (nI a1) (nI b1) (nI c1) (nI (bN s (i - 1)))) (i - 1) (tmI s (i - 1) 8) (smI s (i - 1) 8) (fmI s (i - 1) 8)) (i - 1) := ⟨L3_r2 .., L3_r3 ..⟩
        have hmB : Msk s (L3 (set4 m 125 (nI a1) (nI b1) (nI c1) (nI (bN s (i - 1)))) (i - 1) (tmI s (i - 1) 8) (smI s (i - 1) 8) (fmI s (i - 1) 8)) i := by
          unfold L3
          have n1 : ¬ i = i - 1 := by omega
          refine ⟨?_, ?_⟩
          · rw [up_k (by decide), up_j n1, up_k (by decide), set4_k (by decide)]; exact hm2.1
          · rw [up_j n1, up_k (by decide), up_k (by decide), set4_k (by decide)]; exact hm2.2
        have row3 : Row (L3 (set4 m 125 (nI a1) (nI b1) (nI c1) (nI (bN s (i - 1)))) (i - 1) (tmI s (i - 1) 8) (smI s (i - 1) 8) (fmI s (i - 1) 8)) 124 (xv s i (a, b, c)) := Row_k row2 (by rw [l3k 124 (by decide) (by decide) (by decide), set4_k (by decide)])
        have row4 : Row (L3 (set4 m 125 (nI a1) (nI b1) (nI c1) (nI (bN s (i - 1)))) (i - 1) (tmI s (i - 1) 8) (smI s (i - 1) 8) (fmI s (i - 1) 8)) 125 (xv s (i - 1) (a1, b1, c1)) := Row_k rowB (l3k 125 (by decide) (by decide) (by decide))
        refine sp_Rm_pairRule (RB_L3 hb3 _ _ _ _) hw (by omega) (by omega) hmA hmB row3 row4 ?_
        exact hp _ (m2.tr ((Mk_s4 s m (Or.inr rfl) _ _ _ _).tr (Mk_L3 s _ (by omega)))) row3 (fun _ _ _ => row4)
  · refine ⟨fun q => absurd q e0, fun _ => ?_⟩
    simp only [e0, if_false] at hp
    exact hp _ m2 row2 (fun _ _ q => q.elim)
def o_fault (s : SG) (x : Int32) : Int32 := if hasC s x then (if (ssg s (ix x)).isSome then nI (faultN s (ix x)) else -2) else -1
theorem rs_fault {Post : Int32 → MH → Prop} {s : SG} {mu : Nat → Nat → Int32} {l : Nat → Int64} (hr : RR s mu l) (hw : WF s) (x : Int32) (hp : ∀ mu2, RR s mu2 l → SC mu mu2 → Post (o_fault s x) (Hm mu2 l)) : wp_Rm_fault Post 113 x (Hm mu l) := by
  have h0 := RR_0 hr 0
  have h12 := hw.n
  have s0 : SC mu (up mu 113 0 0) := SC.up mu (by decide) _ _
  unfold wp_Rm_fault
  simp only [Option.some.injEq, Sum.inl.injEq, Sum.inr.injEq, Prod.mk.injEq, and_assoc, exists_eq_left', exists_eq_left, exists_and_left, exists_and_right, exists_eq', exists_eq, forall_eq, forall_eq', true_and, and_true, exists_const, Hm_1, gF_Rm_0, fs_Rm_0, gC_Rm, sp_Rm_noChord _ h0.1 hw, bI_0]
  unfold o_fault at hp
  cases e : hasC s x
  · rw [e] at hp
    exact ⟨fun q => by simp at q, fun _ => hp _ h0 s0⟩
  rw [e] at hp
  simp only [if_true] at hp
  refine ⟨fun _ => ?_, fun q => by simp at q⟩
  have hx := hasC_ix hw e
  generalize ix x = i at hx hp
  rw [hx.1]
  simp only [Option.some.injEq, Sum.inl.injEq, Sum.inr.injEq, Prod.mk.injEq, and_assoc, exists_eq_left', exists_eq_left, exists_and_left, exists_and_right, exists_eq', exists_eq, forall_eq, forall_eq', true_and, and_true, exists_const, Hm_1, gC_Rm, gF_Rm_0, fs_Rm_0, gF_Rm_1, fs_Rm_1, gF_Rm_2, fs_Rm_2, gF_Rm_3, gF_Rm_4, gF_Rm_5, gF_Rm_6, gF_Rm_7, gF_Rm_8, gF_Rm_9, gF_Rm_10, fs_Rm_10, gF_Rm_11, gF_Rm_12, gF_Rm_13, gF_Rm_14, gF_Rm_15, gF_Rm_16, gF_Rm_17, gF_Rm_18, gF_Rm_19, fs_Rm_19, gF_Rm_20, gF_Rm_21, gF_Rm_22, gF_Rm_23, gF_Rm_24, fs_Rm_24, gF_Rm_25, gA_Rle, ms_Rle, gA_Roc, ms_Roc, gA_Ral, ms_Ral, gA_Rto, ms_Rto, gA_Rlo, ms_Rlo, gA_Rhi, ms_Rhi, gA_Rho, ms_Rho, gA_Rgi, ms_Rgi, gA_Rha, ms_Rha, gA_Ris, ms_Ris, gA_Rno, ms_Rno, gA_Rbe, ms_Rbe, gA_Rtn, ms_Rtn, gA_Rsu, ms_Rsu, gA_Rfa, ms_Rfa, gA_Rpi, ms_Rpi, gA_Rsi, ms_Rsi, gA_Rre, ms_Rre, gL_Rro, ms_Rro, gA_Rch, ms_Rch, vp_in_nI (show i < 12 by omega) (show 12 < 2 ^ 31 by decide), nI_clamp (show i < 2 ^ 31 by omega), (h0.1.2.2.2.2.2.2.2 i hx.2).1, bI_0]
  cases es : ssg s i with
  | none =>
    rw [es] at hp
    exact ⟨fun _ => hp _ h0 s0, fun q => absurd rfl q⟩
  | some t =>
    obtain ⟨a, b, c⟩ := t
    rw [es] at hp
    refine ⟨fun q => (by cases q), fun _ => ?_⟩
    exact sp_Rm_faultOf h0.1 hw hx.2 es (fun mu2 m _ _ => hp _ (RR_Mk h0 m) (s0.tr (SC_Mk m)))
def sgC (s : SG) : Nat → Option Nat
  | 0 => some 0
  | i + 1 => match sgC s i, ssg s i with
    | some c, some t => if faultN s i = 0 then some (c + (if i = 0 then csH s (xv s i t) else csM (xv s i t) (xt s (i - 1) (ssg s (i - 1))))) else none
    | _, _ => none
def o_sung (s : SG) : Int32 := if sn s = 0 then -2 else (match sgC s (sn s) with | some c => nI c | none => -2)
theorem sgC_none {s : SG} {i : Nat} (h : sgC s i = none) : ∀ n, i ≤ n → sgC s n = none := by
  intro n hn
  induction n with
  | zero => obtain rfl : i = 0 := by omega
            exact h
  | succ n ih =>
    by_cases e : i = n + 1
    · rw [← e]; exact h
    · unfold sgC; rw [ih (by omega)]
theorem csH_le {s : SG} (hw : WF s) {x : Nat → Nat} (hx : ∀ v, v < 4 → x v ≤ 127) : csH s x ≤ 381 := by
  have h0 := dis_le (hx 0 (by decide)) (hw.2.2.2.2.2.1 0 (by decide)).2.2.2
  have h1 := dis_le (hx 1 (by decide)) (hw.2.2.2.2.2.1 1 (by decide)).2.2.2
  have h2 := dis_le (hx 2 (by decide)) (hw.2.2.2.2.2.1 2 (by decide)).2.2.2
  unfold csH; omega
theorem csM_le {x y : Nat → Nat} (hx : ∀ v, v < 4 → x v ≤ 127) (hy : ∀ v, v < 4 → y v ≤ 127) : csM x y ≤ 381 := by
  have h0 := dis_le (hx 0 (by decide)) (hy 0 (by decide))
  have h1 := dis_le (hx 1 (by decide)) (hy 1 (by decide))
  have h2 := dis_le (hx 2 (by decide)) (hy 2 (by decide))
  unfold csM; omega
