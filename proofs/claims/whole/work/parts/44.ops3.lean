def fill (mu : Nat → Nat → Int32) (k b n : Nat) (v : Int32) : Nat → Nat → Int32 := fun q j => if q = k ∧ b ≤ j ∧ j < b + n then v else mu q j
theorem fill_0 (mu : Nat → Nat → Int32) (k b : Nat) (v : Int32) : fill mu k b 0 v = mu := by
  funext q j; unfold fill; rw [if_neg (by omega)]
theorem fill_s (mu : Nat → Nat → Int32) (k b n : Nat) (v : Int32) : up (fill mu k b n v) k (b + n) v = fill mu k b (n + 1) v := by
  funext q j; rw [up_ap]; unfold fill
  by_cases e : q = k ∧ j = b + n
  · rw [if_pos e, if_pos (by omega)]
  · rw [if_neg e]
    by_cases e2 : q = k ∧ b ≤ j ∧ j < b + n
    · rw [if_pos e2, if_pos (by omega)]
    · rw [if_neg e2, if_neg (by omega)]
theorem fill_k {mu : Nat → Nat → Int32} {k b n q : Nat} {v : Int32} (h : ¬ q = k) : fill mu k b n v q = mu q := by
  funext j; unfold fill; rw [if_neg (fun e => h e.1)]
theorem fill_in {mu : Nat → Nat → Int32} {k b n j : Nat} {v : Int32} (h : b ≤ j ∧ j < b + n) : fill mu k b n v k j = v := by unfold fill; rw [if_pos ⟨rfl, h⟩]
theorem fill_out {mu : Nat → Nat → Int32} {k b n j : Nat} {v : Int32} (h : ¬ (b ≤ j ∧ j < b + n)) : fill mu k b n v k j = mu k j := by unfold fill; rw [if_neg (fun e => h e.2)]
theorem SC_fill (mu : Nat → Nat → Int32) {k : Nat} (hk : 113 ≤ k) (b n : Nat) (v : Int32) : SC mu (fill mu k b n v) := fun q hq => fill_k (by omega)
theorem up_back (mu : Nat → Nat → Int32) (k j : Nat) (a : Int32) : up (up mu k j a) k j (mu k j) = mu := by
  funext q i; rw [up_ap, up_ap]; by_cases e : q = k ∧ i = j
  · rw [if_pos e, e.1, e.2]
  · rw [if_neg e, if_neg e]
def o_chord (s : SG) (a b c : Int32) : Int32 × SG := if inI a 0 6 && inI b 1 5 && inI c (-1) 1 then (if sn s = 12 then (-3, s) else (nI (sn s), mkS (sF s) (sn s + 1) (sp s) (va_up (slt s) (sn s) (ix a)) (va_up (soc s) (sn s) (ix b)) (va_up (sal s) (sn s) c.toInt) (va_up (std s) (sn s) (fun _ => 0)) (slo s) (shi s) (sho s) (va_up (sgv s) (sn s) (fun _ => -1)) (va_up (ssg s) (sn s) none))) else (-1, s)
set_option maxHeartbeats 1000000 in
theorem rs_chord {Post : Int32 → MH → Prop} {s : SG} {mu : Nat → Nat → Int32} {l : Nat → Int64} (hr : RR s mu l) (hw : WF s) (a b c : Int32) (hp : ∀ mu2, RR (o_chord s a b c).2 mu2 l → SC mu mu2 → Post (o_chord s a b c).1 (Hm mu2 l)) : wp_Rm_chord Post 113 a b c (Hm mu l) := by
  obtain ⟨hb, -⟩ := id hr
  have h0 := RR_0 hr 0
  have h12 := hw.n
  have bad : ∀ r, o_chord s a b c = (r, s) → Post r (Hm (up mu 113 0 0) l) := fun r e => by
    rw [e] at hp; exact hp _ h0 (SC.up mu (by decide) _ _)
  unfold wp_Rm_chord
  simp only [Option.some.injEq, Sum.inl.injEq, Sum.inr.injEq, Prod.mk.injEq, and_assoc, exists_eq_left', exists_eq_left, exists_and_left, exists_and_right, exists_eq', exists_eq, forall_eq, forall_eq', true_and, and_true, exists_const, Hm_1, gF_Rm_0, fs_Rm_0, sp_in2, bI_0, show ((-7 : Int64)).toInt = -7 from rfl, show ((-1 : Int64)).toInt = -1 from rfl, show ((0 : Int64)).toInt = 0 from rfl, show ((1 : Int64)).toInt = 1 from rfl, show ((2 : Int64)).toInt = 2 from rfl, show ((3 : Int64)).toInt = 3 from rfl, show ((5 : Int64)).toInt = 5 from rfl, show ((6 : Int64)).toInt = 6 from rfl, show ((7 : Int64)).toInt = 7 from rfl, show ((9 : Int64)).toInt = 9 from rfl, show ((14 : Int64)).toInt = 14 from rfl, show ((24 : Int64)).toInt = 24 from rfl, show ((127 : Int64)).toInt = 127 from rfl]
  cases e : inI a 0 6
  · exact ⟨fun _ => bad _ (by simp [o_chord, e]), fun q => absurd rfl q⟩
  refine ⟨fun q => (by cases q), fun _ => ?_⟩
  cases e2 : inI b 1 5
  · exact ⟨fun _ => bad _ (by simp [o_chord, e2]), fun q => absurd rfl q⟩
  refine ⟨fun q => (by cases q), fun _ => ?_⟩
  cases e3 : inI c (-1) 1
  · exact ⟨fun q => absurd rfl q, fun _ => bad _ (by simp [o_chord, e3])⟩
  refine ⟨fun _ => ?_, fun q => by cases q⟩
  simp only [Option.some.injEq, Sum.inl.injEq, Sum.inr.injEq, Prod.mk.injEq, and_assoc, exists_eq_left', exists_eq_left, exists_and_left, exists_and_right, exists_eq', exists_eq, forall_eq, forall_eq', true_and, and_true, exists_const, Hm_1, gC_Rm, gF_Rm_0, fs_Rm_0, gF_Rm_1, fs_Rm_1, gF_Rm_2, fs_Rm_2, gF_Rm_3, gF_Rm_4, gF_Rm_5, gF_Rm_6, gF_Rm_7, gF_Rm_8, gF_Rm_9, gF_Rm_10, fs_Rm_10, gF_Rm_11, gF_Rm_12, gF_Rm_13, gF_Rm_14, gF_Rm_15, gF_Rm_16, gF_Rm_17, gF_Rm_18, gF_Rm_19, fs_Rm_19, gF_Rm_20, gF_Rm_21, gF_Rm_22, gF_Rm_23, gF_Rm_24, fs_Rm_24, gF_Rm_25, gA_Rle, ms_Rle, gA_Roc, ms_Roc, gA_Ral, ms_Ral, gA_Rto, ms_Rto, gA_Rlo, ms_Rlo, gA_Rhi, ms_Rhi, gA_Rho, ms_Rho, gA_Rgi, ms_Rgi, gA_Rha, ms_Rha, gA_Ris, ms_Ris, gA_Rno, ms_Rno, gA_Rbe, ms_Rbe, gA_Rtn, ms_Rtn, gA_Rsu, ms_Rsu, gA_Rfa, ms_Rfa, gA_Rpi, ms_Rpi, gA_Rsi, ms_Rsi, gA_Rre, ms_Rre, gL_Rro, ms_Rro, gA_Rch, ms_Rch]
  have en : up mu 113 0 0 113 2 = nI (sn s) := by rw [up_j (by decide)]; exact hb.2.1
  rw [en, show (12 : Int32) = nI 12 from rfl, nI_eq (by omega) (by decide)]
  by_cases e4 : sn s = 12
  · exact ⟨fun q => absurd e4 q, fun _ => bad _ (by simp [o_chord, e, e2, e3, e4])⟩
  refine ⟨fun _ => ?_, fun q => absurd q e4⟩
  have hn : sn s < 12 := by omega
  have hv : vp_in (nI (sn s)) 12 := vp_in_nI hn (by decide)
  have hc : (nI (sn s)).toNatClampNeg = sn s := nI_clamp (by omega)
  simp only [up_k (show ¬ 113 = 114 by decide), up_k (show ¬ 115 = 114 by decide), up_k (show ¬ 116 = 114 by decide), up_k (show ¬ 117 = 114 by decide), up_k (show ¬ 118 = 114 by decide), up_k (show ¬ 119 = 114 by decide), up_k (show ¬ 120 = 114 by decide), up_k (show ¬ 121 = 114 by decide), up_k (show ¬ 122 = 114 by decide), up_k (show ¬ 123 = 114 by decide), up_k (show ¬ 124 = 114 by decide), up_k (show ¬ 125 = 114 by decide), up_k (show ¬ 126 = 114 by decide), up_k (show ¬ 127 = 114 by decide), up_k (show ¬ 128 = 114 by decide), up_k (show ¬ 129 = 114 by decide), up_k (show ¬ 130 = 114 by decide), up_k (show ¬ 131 = 114 by decide), up_k (show ¬ 132 = 114 by decide), up_k (show ¬ 133 = 114 by decide), up_k (show ¬ 113 = 115 by decide), up_k (show ¬ 114 = 115 by decide), up_k (show ¬ 116 = 115 by decide), up_k (show ¬ 117 = 115 by decide), up_k (show ¬ 118 = 115 by decide), up_k (show ¬ 119 = 115 by decide), up_k (show ¬ 120 = 115 by decide), up_k (show ¬ 121 = 115 by decide), up_k (show ¬ 122 = 115 by decide), up_k (show ¬ 123 = 115 by decide), up_k (show ¬ 124 = 115 by decide), up_k (show ¬ 125 = 115 by decide), up_k (show ¬ 126 = 115 by decide), up_k (show ¬ 127 = 115 by decide), up_k (show ¬ 128 = 115 by decide), up_k (show ¬ 129 = 115 by decide), up_k (show ¬ 130 = 115 by decide), up_k (show ¬ 131 = 115 by decide), up_k (show ¬ 132 = 115 by decide), up_k (show ¬ 133 = 115 by decide), en, hv, hc, true_and]
  generalize hm1 : up (up (up (up mu 113 0 0) 114 (sn s) a) 115 (sn s) b) 116 (sn s) c = m1
  have e13 : m1 113 2 = nI (sn s) := by rw [← hm1]; simp only [up_k (show ¬ 113 = 114 by decide), up_k (show ¬ 115 = 114 by decide), up_k (show ¬ 116 = 114 by decide), up_k (show ¬ 117 = 114 by decide), up_k (show ¬ 118 = 114 by decide), up_k (show ¬ 119 = 114 by decide), up_k (show ¬ 120 = 114 by decide), up_k (show ¬ 121 = 114 by decide), up_k (show ¬ 122 = 114 by decide), up_k (show ¬ 123 = 114 by decide), up_k (show ¬ 124 = 114 by decide), up_k (show ¬ 125 = 114 by decide), up_k (show ¬ 126 = 114 by decide), up_k (show ¬ 127 = 114 by decide), up_k (show ¬ 128 = 114 by decide), up_k (show ¬ 129 = 114 by decide), up_k (show ¬ 130 = 114 by decide), up_k (show ¬ 131 = 114 by decide), up_k (show ¬ 132 = 114 by decide), up_k (show ¬ 133 = 114 by decide), up_k (show ¬ 113 = 115 by decide), up_k (show ¬ 114 = 115 by decide), up_k (show ¬ 116 = 115 by decide), up_k (show ¬ 117 = 115 by decide), up_k (show ¬ 118 = 115 by decide), up_k (show ¬ 119 = 115 by decide), up_k (show ¬ 120 = 115 by decide), up_k (show ¬ 121 = 115 by decide), up_k (show ¬ 122 = 115 by decide), up_k (show ¬ 123 = 115 by decide), up_k (show ¬ 124 = 115 by decide), up_k (show ¬ 125 = 115 by decide), up_k (show ¬ 126 = 115 by decide), up_k (show ¬ 127 = 115 by decide), up_k (show ¬ 128 = 115 by decide), up_k (show ¬ 129 = 115 by decide), up_k (show ¬ 130 = 115 by decide), up_k (show ¬ 131 = 115 by decide), up_k (show ¬ 132 = 115 by decide), up_k (show ¬ 133 = 115 by decide), up_k (show ¬ 113 = 116 by decide), up_k (show ¬ 114 = 116 by decide), up_k (show ¬ 115 = 116 by decide), up_k (show ¬ 117 = 116 by decide), up_k (show ¬ 118 = 116 by decide), up_k (show ¬ 119 = 116 by decide), up_k (show ¬ 120 = 116 by decide), up_k (show ¬ 121 = 116 by decide), up_k (show ¬ 122 = 116 by decide), up_k (show ¬ 123 = 116 by decide), up_k (show ¬ 124 = 116 by decide), up_k (show ¬ 125 = 116 by decide), up_k (show ¬ 126 = 116 by decide), up_k (show ¬ 127 = 116 by decide), up_k (show ¬ 128 = 116 by decide), up_k (show ¬ 129 = 116 by decide), up_k (show ¬ 130 = 116 by decide), up_k (show ¬ 131 = 116 by decide), up_k (show ¬ 132 = 116 by decide), up_k (show ¬ 133 = 116 by decide)]; exact en
  have k88 : ∀ (j f : Nat), f + j = 10 → wp_Rm_chord_120 Post 113 0 (Hm (fill m1 117 (10 * sn s) 10 0) l) → wn_Rm_chord_88 Post (j + 1) 113 (nI f) (Hm (fill m1 117 (10 * sn s) f 0) l) := by
    intro j
    induction j with
    | zero =>
      intro f hf hq
      obtain rfl : f = 10 := by omega
      exact ⟨fun _ => hq, fun q => absurd (by decide) q⟩
    | succ j ih =>
      intro f hf hq
      refine ⟨fun q => absurd q (nI_ge (show f < 10 by omega) (by decide)), fun _ => ?_⟩
      simp only [Option.some.injEq, Sum.inl.injEq, Sum.inr.injEq, Prod.mk.injEq, and_assoc, exists_eq_left', exists_eq_left, exists_and_left, exists_and_right, exists_eq', exists_eq, forall_eq, forall_eq', true_and, and_true, exists_const, Hm_1, gC_Rm, gF_Rm_0, fs_Rm_0, gF_Rm_1, fs_Rm_1, gF_Rm_2, fs_Rm_2, gF_Rm_3, gF_Rm_4, gF_Rm_5, gF_Rm_6, gF_Rm_7, gF_Rm_8, gF_Rm_9, gF_Rm_10, fs_Rm_10, gF_Rm_11, gF_Rm_12, gF_Rm_13, gF_Rm_14, gF_Rm_15, gF_Rm_16, gF_Rm_17, gF_Rm_18, gF_Rm_19, fs_Rm_19, gF_Rm_20, gF_Rm_21, gF_Rm_22, gF_Rm_23, gF_Rm_24, fs_Rm_24, gF_Rm_25, gA_Rle, ms_Rle, gA_Roc, ms_Roc, gA_Ral, ms_Ral, gA_Rto, ms_Rto, gA_Rlo, ms_Rlo, gA_Rhi, ms_Rhi, gA_Rho, ms_Rho, gA_Rgi, ms_Rgi, gA_Rha, ms_Rha, gA_Ris, ms_Ris, gA_Rno, ms_Rno, gA_Rbe, ms_Rbe, gA_Rtn, ms_Rtn, gA_Rsu, ms_Rsu, gA_Rfa, ms_Rfa, gA_Rpi, ms_Rpi, gA_Rsi, ms_Rsi, gA_Rre, ms_Rre, gL_Rro, ms_Rro, gA_Rch, ms_Rch]
      rw [fill_k (show ¬ 113 = 117 by decide), e13]
      simp only [show (10 : Int32) = nI 10 from rfl, pk_mul, nI_add, vp_in_nI (show 10 * sn s + f < 120 by omega) (show 120 < 2 ^ 31 by decide), nI_clamp (show 10 * sn s + f < 2 ^ 31 by omega), fill_s, nI_1, true_and]
      exact ih (f + 1) (by omega) hq
  have k120 : ∀ (j f : Nat), f + j = 3 → wn_Rm_chord_120 Post (j + 1) 113 (nI f) (Hm (fill (fill m1 117 (10 * sn s) 10 0) 121 (3 * sn s) f (-1)) l) := by
    intro j
    induction j with
    | zero =>
      intro f hf
      obtain rfl : f = 3 := by omega
      refine ⟨fun _ => ?_, fun q => absurd (by decide) q⟩
      have e14 : fill (fill m1 117 (10 * sn s) 10 0) 121 (3 * sn s) 3 (-1) 113 2 = nI (sn s) := by
        rw [fill_k (show ¬ 113 = 121 by decide), fill_k (show ¬ 113 = 117 by decide), e13]
      simp only [Option.some.injEq, Sum.inl.injEq, Sum.inr.injEq, Prod.mk.injEq, and_assoc, exists_eq_left', exists_eq_left, exists_and_left, exists_and_right, exists_eq', exists_eq, forall_eq, forall_eq', true_and, and_true, exists_const, Hm_1, gC_Rm, gF_Rm_0, fs_Rm_0, gF_Rm_1, fs_Rm_1, gF_Rm_2, fs_Rm_2, gF_Rm_3, gF_Rm_4, gF_Rm_5, gF_Rm_6, gF_Rm_7, gF_Rm_8, gF_Rm_9, gF_Rm_10, fs_Rm_10, gF_Rm_11, gF_Rm_12, gF_Rm_13, gF_Rm_14, gF_Rm_15, gF_Rm_16, gF_Rm_17, gF_Rm_18, gF_Rm_19, fs_Rm_19, gF_Rm_20, gF_Rm_21, gF_Rm_22, gF_Rm_23, gF_Rm_24, fs_Rm_24, gF_Rm_25, gA_Rle, ms_Rle, gA_Roc, ms_Roc, gA_Ral, ms_Ral, gA_Rto, ms_Rto, gA_Rlo, ms_Rlo, gA_Rhi, ms_Rhi, gA_Rho, ms_Rho, gA_Rgi, ms_Rgi, gA_Rha, ms_Rha, gA_Ris, ms_Ris, gA_Rno, ms_Rno, gA_Rbe, ms_Rbe, gA_Rtn, ms_Rtn, gA_Rsu, ms_Rsu, gA_Rfa, ms_Rfa, gA_Rpi, ms_Rpi, gA_Rsi, ms_Rsi, gA_Rre, ms_Rre, gL_Rro, ms_Rro, gA_Rch, ms_Rch, up_k (show ¬ 113 = 123 by decide), up_k (show ¬ 114 = 123 by decide), up_k (show ¬ 115 = 123 by decide), up_k (show ¬ 116 = 123 by decide), up_k (show ¬ 117 = 123 by decide), up_k (show ¬ 118 = 123 by decide), up_k (show ¬ 119 = 123 by decide), up_k (show ¬ 120 = 123 by decide), up_k (show ¬ 121 = 123 by decide), up_k (show ¬ 122 = 123 by decide), up_k (show ¬ 124 = 123 by decide), up_k (show ¬ 125 = 123 by decide), up_k (show ¬ 126 = 123 by decide), up_k (show ¬ 127 = 123 by decide), up_k (show ¬ 128 = 123 by decide), up_k (show ¬ 129 = 123 by decide), up_k (show ¬ 130 = 123 by decide), up_k (show ¬ 131 = 123 by decide), up_k (show ¬ 132 = 123 by decide), up_k (show ¬ 133 = 123 by decide), e14, hv, hc, nI_1]
      rw [up_j (by decide), up_at, n_sub1 (by omega)]
      unfold o_chord at hp
      simp only [e, e2, e3, e4, Bool.and_self, if_true, if_false] at hp
      have hA := inI_ix (b := 6) (by decide) e
      have hB := inI_ix (x := b) (b := 5) (by decide) (by simp [inI] at e2 ⊢; omega)
      refine hp _ (RR_un ⟨?_, ?_, ?_, ?_⟩) ?_
      · rw [up_j (by decide)]; simp only [up_k (show ¬ 113 = 123 by decide), up_k (show ¬ 114 = 123 by decide), up_k (show ¬ 115 = 123 by decide), up_k (show ¬ 116 = 123 by decide), up_k (show ¬ 117 = 123 by decide), up_k (show ¬ 118 = 123 by decide), up_k (show ¬ 119 = 123 by decide), up_k (show ¬ 120 = 123 by decide), up_k (show ¬ 121 = 123 by decide), up_k (show ¬ 122 = 123 by decide), up_k (show ¬ 124 = 123 by decide), up_k (show ¬ 125 = 123 by decide), up_k (show ¬ 126 = 123 by decide), up_k (show ¬ 127 = 123 by decide), up_k (show ¬ 128 = 123 by decide), up_k (show ¬ 129 = 123 by decide), up_k (show ¬ 130 = 123 by decide), up_k (show ¬ 131 = 123 by decide), up_k (show ¬ 132 = 123 by decide), up_k (show ¬ 133 = 123 by decide)]; rw [fill_k (by decide), fill_k (by decide), ← hm1]; simp only [up_k (show ¬ 113 = 114 by decide), up_k (show ¬ 115 = 114 by decide), up_k (show ¬ 116 = 114 by decide), up_k (show ¬ 117 = 114 by decide), up_k (show ¬ 118 = 114 by decide), up_k (show ¬ 119 = 114 by decide), up_k (show ¬ 120 = 114 by decide), up_k (show ¬ 121 = 114 by decide), up_k (show ¬ 122 = 114 by decide), up_k (show ¬ 123 = 114 by decide), up_k (show ¬ 124 = 114 by decide), up_k (show ¬ 125 = 114 by decide), up_k (show ¬ 126 = 114 by decide), up_k (show ¬ 127 = 114 by decide), up_k (show ¬ 128 = 114 by decide), up_k (show ¬ 129 = 114 by decide), up_k (show ¬ 130 = 114 by decide), up_k (show ¬ 131 = 114 by decide), up_k (show ¬ 132 = 114 by decide), up_k (show ¬ 133 = 114 by decide), up_k (show ¬ 113 = 115 by decide), up_k (show ¬ 114 = 115 by decide), up_k (show ¬ 116 = 115 by decide), up_k (show ¬ 117 = 115 by decide), up_k (show ¬ 118 = 115 by decide), up_k (show ¬ 119 = 115 by decide), up_k (show ¬ 120 = 115 by decide), up_k (show ¬ 121 = 115 by decide), up_k (show ¬ 122 = 115 by decide), up_k (show ¬ 123 = 115 by decide), up_k (show ¬ 124 = 115 by decide), up_k (show ¬ 125 = 115 by decide), up_k (show ¬ 126 = 115 by decide), up_k (show ¬ 127 = 115 by decide), up_k (show ¬ 128 = 115 by decide), up_k (show ¬ 129 = 115 by decide), up_k (show ¬ 130 = 115 by decide), up_k (show ¬ 131 = 115 by decide), up_k (show ¬ 132 = 115 by decide), up_k (show ¬ 133 = 115 by decide), up_k (show ¬ 113 = 116 by decide), up_k (show ¬ 114 = 116 by decide), up_k (show ¬ 115 = 116 by decide), up_k (show ¬ 117 = 116 by decide), up_k (show ¬ 118 = 116 by decide), up_k (show ¬ 119 = 116 by decide), up_k (show ¬ 120 = 116 by decide), up_k (show ¬ 121 = 116 by decide), up_k (show ¬ 122 = 116 by decide), up_k (show ¬ 123 = 116 by decide), up_k (show ¬ 124 = 116 by decide), up_k (show ¬ 125 = 116 by decide), up_k (show ¬ 126 = 116 by decide), up_k (show ¬ 127 = 116 by decide), up_k (show ¬ 128 = 116 by decide), up_k (show ¬ 129 = 116 by decide), up_k (show ¬ 130 = 116 by decide), up_k (show ¬ 131 = 116 by decide), up_k (show ¬ 132 = 116 by decide), up_k (show ¬ 133 = 116 by decide)]; rw [up_j (by decide)]; exact hb.1
      · rw [up_at]; rfl
      · rw [up_j (by decide)]; simp only [up_k (show ¬ 113 = 123 by decide), up_k (show ¬ 114 = 123 by decide), up_k (show ¬ 115 = 123 by decide), up_k (show ¬ 116 = 123 by decide), up_k (show ¬ 117 = 123 by decide), up_k (show ¬ 118 = 123 by decide), up_k (show ¬ 119 = 123 by decide), up_k (show ¬ 120 = 123 by decide), up_k (show ¬ 121 = 123 by decide), up_k (show ¬ 122 = 123 by decide), up_k (show ¬ 124 = 123 by decide), up_k (show ¬ 125 = 123 by decide), up_k (show ¬ 126 = 123 by decide), up_k (show ¬ 127 = 123 by decide), up_k (show ¬ 128 = 123 by decide), up_k (show ¬ 129 = 123 by decide), up_k (show ¬ 130 = 123 by decide), up_k (show ¬ 131 = 123 by decide), up_k (show ¬ 132 = 123 by decide), up_k (show ¬ 133 = 123 by decide)]; rw [fill_k (by decide), fill_k (by decide), ← hm1]; simp only [up_k (show ¬ 113 = 114 by decide), up_k (show ¬ 115 = 114 by decide), up_k (show ¬ 116 = 114 by decide), up_k (show ¬ 117 = 114 by decide), up_k (show ¬ 118 = 114 by decide), up_k (show ¬ 119 = 114 by decide), up_k (show ¬ 120 = 114 by decide), up_k (show ¬ 121 = 114 by decide), up_k (show ¬ 122 = 114 by decide), up_k (show ¬ 123 = 114 by decide), up_k (show ¬ 124 = 114 by decide), up_k (show ¬ 125 = 114 by decide), up_k (show ¬ 126 = 114 by decide), up_k (show ¬ 127 = 114 by decide), up_k (show ¬ 128 = 114 by decide), up_k (show ¬ 129 = 114 by decide), up_k (show ¬ 130 = 114 by decide), up_k (show ¬ 131 = 114 by decide), up_k (show ¬ 132 = 114 by decide), up_k (show ¬ 133 = 114 by decide), up_k (show ¬ 113 = 115 by decide), up_k (show ¬ 114 = 115 by decide), up_k (show ¬ 116 = 115 by decide), up_k (show ¬ 117 = 115 by decide), up_k (show ¬ 118 = 115 by decide), up_k (show ¬ 119 = 115 by decide), up_k (show ¬ 120 = 115 by decide), up_k (show ¬ 121 = 115 by decide), up_k (show ¬ 122 = 115 by decide), up_k (show ¬ 123 = 115 by decide), up_k (show ¬ 124 = 115 by decide), up_k (show ¬ 125 = 115 by decide), up_k (show ¬ 126 = 115 by decide), up_k (show ¬ 127 = 115 by decide), up_k (show ¬ 128 = 115 by decide), up_k (show ¬ 129 = 115 by decide), up_k (show ¬ 130 = 115 by decide), up_k (show ¬ 131 = 115 by decide), up_k (show ¬ 132 = 115 by decide), up_k (show ¬ 133 = 115 by decide), up_k (show ¬ 113 = 116 by decide), up_k (show ¬ 114 = 116 by decide), up_k (show ¬ 115 = 116 by decide), up_k (show ¬ 117 = 116 by decide), up_k (show ¬ 118 = 116 by decide), up_k (show ¬ 119 = 116 by decide), up_k (show ¬ 120 = 116 by decide), up_k (show ¬ 121 = 116 by decide), up_k (show ¬ 122 = 116 by decide), up_k (show ¬ 123 = 116 by decide), up_k (show ¬ 124 = 116 by decide), up_k (show ¬ 125 = 116 by decide), up_k (show ¬ 126 = 116 by decide), up_k (show ¬ 127 = 116 by decide), up_k (show ¬ 128 = 116 by decide), up_k (show ¬ 129 = 116 by decide), up_k (show ¬ 130 = 116 by decide), up_k (show ¬ 131 = 116 by decide), up_k (show ¬ 132 = 116 by decide), up_k (show ¬ 133 = 116 by decide)]; rw [up_j (by decide)]; exact hb.2.2.1
      · have h4 := hb.2.2.2
        have r : ∀ q, ¬ q = 113 → ¬ q = 114 → ¬ q = 115 → ¬ q = 116 → m1 q = mu q := by
          intro q g1 g2 g3 g4; rw [← hm1, up_k g4, up_k g3, up_k g2, up_k g1]
        show (∀ i, i < sn s + 1 → _) ∧ (∀ i, i < sn s + 1 → _) ∧ (∀ v, v < 3 → _) ∧ (∀ i, i < sn s + 1 → _) ∧ (∀ i, i < sn s + 1 → _)
        simp only [up_k (show ¬ 114 = 113 by decide), up_k (show ¬ 115 = 113 by decide), up_k (show ¬ 116 = 113 by decide), up_k (show ¬ 117 = 113 by decide), up_k (show ¬ 118 = 113 by decide), up_k (show ¬ 119 = 113 by decide), up_k (show ¬ 120 = 113 by decide), up_k (show ¬ 121 = 113 by decide), up_k (show ¬ 122 = 113 by decide), up_k (show ¬ 123 = 113 by decide), up_k (show ¬ 124 = 113 by decide), up_k (show ¬ 125 = 113 by decide), up_k (show ¬ 126 = 113 by decide), up_k (show ¬ 127 = 113 by decide), up_k (show ¬ 128 = 113 by decide), up_k (show ¬ 129 = 113 by decide), up_k (show ¬ 130 = 113 by decide), up_k (show ¬ 131 = 113 by decide), up_k (show ¬ 132 = 113 by decide), up_k (show ¬ 133 = 113 by decide), up_k (show ¬ 113 = 123 by decide), up_k (show ¬ 114 = 123 by decide), up_k (show ¬ 115 = 123 by decide), up_k (show ¬ 116 = 123 by decide), up_k (show ¬ 117 = 123 by decide), up_k (show ¬ 118 = 123 by decide), up_k (show ¬ 119 = 123 by decide), up_k (show ¬ 120 = 123 by decide), up_k (show ¬ 121 = 123 by decide), up_k (show ¬ 122 = 123 by decide), up_k (show ¬ 124 = 123 by decide), up_k (show ¬ 125 = 123 by decide), up_k (show ¬ 126 = 123 by decide), up_k (show ¬ 127 = 123 by decide), up_k (show ¬ 128 = 123 by decide), up_k (show ¬ 129 = 123 by decide), up_k (show ¬ 130 = 123 by decide), up_k (show ¬ 131 = 123 by decide), up_k (show ¬ 132 = 123 by decide), up_k (show ¬ 133 = 123 by decide)]
        refine ⟨fun i hi => ?_, fun i hi f hf => ?_, ?_, fun i hi w hw2 => ?_, fun i hi => ?_⟩
        · rw [fill_k (show ¬ 114 = 121 by decide), fill_k (show ¬ 114 = 117 by decide), fill_k (show ¬ 115 = 121 by decide), fill_k (show ¬ 115 = 117 by decide), fill_k (show ¬ 116 = 121 by decide), fill_k (show ¬ 116 = 117 by decide), ← hm1]
          simp only [up_k (show ¬ 113 = 116 by decide), up_k (show ¬ 114 = 116 by decide), up_k (show ¬ 115 = 116 by decide), up_k (show ¬ 117 = 116 by decide), up_k (show ¬ 118 = 116 by decide), up_k (show ¬ 119 = 116 by decide), up_k (show ¬ 120 = 116 by decide), up_k (show ¬ 121 = 116 by decide), up_k (show ¬ 122 = 116 by decide), up_k (show ¬ 123 = 116 by decide), up_k (show ¬ 124 = 116 by decide), up_k (show ¬ 125 = 116 by decide), up_k (show ¬ 126 = 116 by decide), up_k (show ¬ 127 = 116 by decide), up_k (show ¬ 128 = 116 by decide), up_k (show ¬ 129 = 116 by decide), up_k (show ¬ 130 = 116 by decide), up_k (show ¬ 131 = 116 by decide), up_k (show ¬ 132 = 116 by decide), up_k (show ¬ 133 = 116 by decide), up_k (show ¬ 113 = 115 by decide), up_k (show ¬ 114 = 115 by decide), up_k (show ¬ 116 = 115 by decide), up_k (show ¬ 117 = 115 by decide), up_k (show ¬ 118 = 115 by decide), up_k (show ¬ 119 = 115 by decide), up_k (show ¬ 120 = 115 by decide), up_k (show ¬ 121 = 115 by decide), up_k (show ¬ 122 = 115 by decide), up_k (show ¬ 123 = 115 by decide), up_k (show ¬ 124 = 115 by decide), up_k (show ¬ 125 = 115 by decide), up_k (show ¬ 126 = 115 by decide), up_k (show ¬ 127 = 115 by decide), up_k (show ¬ 128 = 115 by decide), up_k (show ¬ 129 = 115 by decide), up_k (show ¬ 130 = 115 by decide), up_k (show ¬ 131 = 115 by decide), up_k (show ¬ 132 = 115 by decide), up_k (show ¬ 133 = 115 by decide), up_k (show ¬ 113 = 114 by decide), up_k (show ¬ 115 = 114 by decide), up_k (show ¬ 116 = 114 by decide), up_k (show ¬ 117 = 114 by decide), up_k (show ¬ 118 = 114 by decide), up_k (show ¬ 119 = 114 by decide), up_k (show ¬ 120 = 114 by decide), up_k (show ¬ 121 = 114 by decide), up_k (show ¬ 122 = 114 by decide), up_k (show ¬ 123 = 114 by decide), up_k (show ¬ 124 = 114 by decide), up_k (show ¬ 125 = 114 by decide), up_k (show ¬ 126 = 114 by decide), up_k (show ¬ 127 = 114 by decide), up_k (show ¬ 128 = 114 by decide), up_k (show ¬ 129 = 114 by decide), up_k (show ¬ 130 = 114 by decide), up_k (show ¬ 131 = 114 by decide), up_k (show ¬ 132 = 114 by decide), up_k (show ¬ 133 = 114 by decide)]
          by_cases ei : i = sn s
          · subst ei
            refine ⟨?_, ?_, ?_⟩
            · rw [up_at]; show a = nI (va_up (slt s) (sn s) (ix a) (sn s)); rw [va_up_self]; exact hA.1
            · rw [up_at]; show b = nI (va_up (soc s) (sn s) (ix b) (sn s)); rw [va_up_self]; exact hB.1
            · rw [up_at]; show c = iI (va_up (sal s) (sn s) c.toInt (sn s)); rw [va_up_self]; exact (iI_of c).symm
          · have hi2 := h4.1 i (by omega)
            refine ⟨?_, ?_, ?_⟩
            · rw [up_j ei, up_k (by decide)]; show mu 114 i = nI (va_up (slt s) (sn s) (ix a) i); rw [va_up_ne _ _ ei]; exact hi2.1
            · rw [up_j ei, up_k (by decide)]; show mu 115 i = nI (va_up (soc s) (sn s) (ix b) i); rw [va_up_ne _ _ ei]; exact hi2.2.1
            · rw [up_j ei, up_k (by decide)]; show mu 116 i = iI (va_up (sal s) (sn s) c.toInt i); rw [va_up_ne _ _ ei]; exact hi2.2.2
        · rw [fill_k (show ¬ 117 = 121 by decide)]
          show _ = nI (va_up (std s) (sn s) (fun _ => 0) i f)
          by_cases ei : i = sn s
          · subst ei; rw [fill_in (by omega), va_up_self]; rfl
          · rw [fill_out (by omega), r 117 (by decide) (by decide) (by decide) (by decide), va_up_ne _ _ ei]; exact h4.2.1 i (by omega) f hf
        · simp only [fill_k (show ¬ 118 = 121 by decide), fill_k (show ¬ 118 = 117 by decide), fill_k (show ¬ 119 = 121 by decide), fill_k (show ¬ 119 = 117 by decide), fill_k (show ¬ 120 = 121 by decide), fill_k (show ¬ 120 = 117 by decide), r 118 (by decide) (by decide) (by decide) (by decide), r 119 (by decide) (by decide) (by decide) (by decide), r 120 (by decide) (by decide) (by decide) (by decide)]
          exact h4.2.2.1
        · show _ = iI (va_up (sgv s) (sn s) (fun _ => -1) i w)
          by_cases ei : i = sn s
          · subst ei; rw [fill_in (by omega), va_up_self]; rfl
          · rw [fill_out (by omega), fill_k (by decide), r 121 (by decide) (by decide) (by decide) (by decide), va_up_ne _ _ ei]; exact h4.2.2.2.1 i (by omega) w hw2
        · show _ = bI (va_up (ssg s) (sn s) none i).isSome ∧ ∀ a b c, va_up (ssg s) (sn s) none i = some (a, b, c) → _
          rw [fill_k (show ¬ 122 = 121 by decide), fill_k (show ¬ 122 = 117 by decide), r 122 (by decide) (by decide) (by decide) (by decide)]
          by_cases ei : i = sn s
          · subst ei
            rw [va_up_self, up_at]
            exact ⟨rfl, fun _ _ _ h => by cases h⟩
          · rw [va_up_ne _ _ ei, up_j ei, fill_k (by decide), fill_k (by decide), r 123 (by decide) (by decide) (by decide) (by decide)]
            exact h4.2.2.2.2 i (by omega)
      · rw [← hm1]
        exact (((((((((SC.up mu (by decide) _ _).tr (SC.up _ (by decide) _ _)).tr (SC.up _ (by decide) _ _)).tr (SC.up _ (by decide) _ _)).tr (SC_fill _ (by decide) _ _ _)).tr (SC_fill _ (by decide) _ _ _)).tr (SC.up _ (by decide) _ _)).tr (SC.up _ (by decide) _ _)).tr (SC.up _ (by decide) _ _))
    | succ j ih =>
      intro f hf
      refine ⟨fun q => absurd q (nI_ge (show f < 3 by omega) (by decide)), fun _ => ?_⟩
      simp only [Option.some.injEq, Sum.inl.injEq, Sum.inr.injEq, Prod.mk.injEq, and_assoc, exists_eq_left', exists_eq_left, exists_and_left, exists_and_right, exists_eq', exists_eq, forall_eq, forall_eq', true_and, and_true, exists_const, Hm_1, gC_Rm, gF_Rm_0, fs_Rm_0, gF_Rm_1, fs_Rm_1, gF_Rm_2, fs_Rm_2, gF_Rm_3, gF_Rm_4, gF_Rm_5, gF_Rm_6, gF_Rm_7, gF_Rm_8, gF_Rm_9, gF_Rm_10, fs_Rm_10, gF_Rm_11, gF_Rm_12, gF_Rm_13, gF_Rm_14, gF_Rm_15, gF_Rm_16, gF_Rm_17, gF_Rm_18, gF_Rm_19, fs_Rm_19, gF_Rm_20, gF_Rm_21, gF_Rm_22, gF_Rm_23, gF_Rm_24, fs_Rm_24, gF_Rm_25, gA_Rle, ms_Rle, gA_Roc, ms_Roc, gA_Ral, ms_Ral, gA_Rto, ms_Rto, gA_Rlo, ms_Rlo, gA_Rhi, ms_Rhi, gA_Rho, ms_Rho, gA_Rgi, ms_Rgi, gA_Rha, ms_Rha, gA_Ris, ms_Ris, gA_Rno, ms_Rno, gA_Rbe, ms_Rbe, gA_Rtn, ms_Rtn, gA_Rsu, ms_Rsu, gA_Rfa, ms_Rfa, gA_Rpi, ms_Rpi, gA_Rsi, ms_Rsi, gA_Rre, ms_Rre, gL_Rro, ms_Rro, gA_Rch, ms_Rch]
      rw [fill_k (show ¬ 113 = 121 by decide), fill_k (show ¬ 113 = 117 by decide), e13]
      simp only [show (3 : Int32) = nI 3 from rfl, pk_mul, nI_add, vp_in_nI (show 3 * sn s + f < 36 by omega) (show 36 < 2 ^ 31 by decide), nI_clamp (show 3 * sn s + f < 2 ^ 31 by omega), fill_s, nI_1, true_and]
      exact ih (f + 1) (by omega)
  have := k120 3 0 rfl
  rw [fill_0] at this
  have h88 := k88 10 0 rfl ⟨4, this⟩
  rw [fill_0] at h88
  exact ⟨11, h88⟩
def o_plain (s : SG) (i : Int32) : Int32 × SG := if hasC s i then (nI (sumTo (fun k => if tl s (ix i) (k + 2) then 1 else 0) 8), mkS (sF s) (sn s) (sp s) (slt s) (soc s) (sal s) (va_up (std s) (ix i) (fun _ => 0)) (slo s) (shi s) (sho s) (sgv s) (ssg s)) else (-1, s)
theorem up_same {mu : Nat → Nat → Int32} {k j : Nat} {v : Int32} (h : mu k j = v) : up mu k j v = mu := by
  funext q i; rw [up_ap]; by_cases e : q = k ∧ i = j
  · rw [if_pos e, e.1, e.2, h]
  · rw [if_neg e]
set_option maxHeartbeats 1000000 in
theorem rs_plain {Post : Int32 → MH → Prop} {s : SG} {mu : Nat → Nat → Int32} {l : Nat → Int64} (hr : RR s mu l) (hw : WF s) (x : Int32) (hp : ∀ mu2, RR (o_plain s x).2 mu2 l → SC mu mu2 → Post (o_plain s x).1 (Hm mu2 l)) : wp_Rm_plain Post 113 x (Hm mu l) := by
  obtain ⟨hb, -⟩ := id hr
  have h0 := RR_0 hr 0
  have h12 := hw.n
  unfold wp_Rm_plain
  simp only [Option.some.injEq, Sum.inl.injEq, Sum.inr.injEq, Prod.mk.injEq, and_assoc, exists_eq_left', exists_eq_left, exists_and_left, exists_and_right, exists_eq', exists_eq, forall_eq, forall_eq', true_and, and_true, exists_const, Hm_1, gF_Rm_0, fs_Rm_0, gC_Rm, sp_Rm_noChord _ h0.1 hw, bI_0]
  unfold o_plain at hp
  cases e : hasC s x
  · simp only [e, Bool.false_eq_true, if_false] at hp
    exact ⟨fun q => by simp at q, fun _ => hp _ h0 (SC.up mu (by decide) _ _)⟩
  simp only [e, if_true] at hp
  refine ⟨fun _ => ?_, fun q => by simp at q⟩
  have hi := hasC_ix hw e
  generalize hi0 : ix x = i at hi hp
  rw [hi.1]
  obtain ⟨-, hi⟩ := hi
  generalize hm1 : up mu 113 0 0 = m1
  have r : ∀ q, ¬ q = 113 → m1 q = mu q := fun q hq => by rw [← hm1, up_k hq]
  have hz := hw.2.2.2.2.1 i hi
  have key : ∀ (j k : Nat), k + j = 8 → wn_Rm_plain_19 Post (j + 1) 113 (nI i) (nI (sumTo (fun k => if tl s i (k + 2) then 1 else 0) k)) (nI (k + 2)) (Hm (fill m1 117 (10 * i + 2) k 0) l) := by
    intro j
    induction j with
    | zero =>
      intro k hk
      obtain rfl : k = 8 := by omega
      refine ⟨fun _ => ?_, fun q => absurd (by decide) q⟩
      simp only [Option.some.injEq, Sum.inl.injEq, Sum.inr.injEq, Prod.mk.injEq, and_assoc, exists_eq_left', exists_eq_left, exists_and_left, exists_and_right, exists_eq', exists_eq, forall_eq, forall_eq', true_and, and_true, exists_const, Hm_1, gC_Rm, gF_Rm_0, fs_Rm_0, gF_Rm_1, fs_Rm_1, gF_Rm_2, fs_Rm_2, gF_Rm_3, gF_Rm_4, gF_Rm_5, gF_Rm_6, gF_Rm_7, gF_Rm_8, gF_Rm_9, gF_Rm_10, fs_Rm_10, gF_Rm_11, gF_Rm_12, gF_Rm_13, gF_Rm_14, gF_Rm_15, gF_Rm_16, gF_Rm_17, gF_Rm_18, gF_Rm_19, fs_Rm_19, gF_Rm_20, gF_Rm_21, gF_Rm_22, gF_Rm_23, gF_Rm_24, fs_Rm_24, gF_Rm_25, gA_Rle, ms_Rle, gA_Roc, ms_Roc, gA_Ral, ms_Ral, gA_Rto, ms_Rto, gA_Rlo, ms_Rlo, gA_Rhi, ms_Rhi, gA_Rho, ms_Rho, gA_Rgi, ms_Rgi, gA_Rha, ms_Rha, gA_Ris, ms_Ris, gA_Rno, ms_Rno, gA_Rbe, ms_Rbe, gA_Rtn, ms_Rtn, gA_Rsu, ms_Rsu, gA_Rfa, ms_Rfa, gA_Rpi, ms_Rpi, gA_Rsi, ms_Rsi, gA_Rre, ms_Rre, gL_Rro, ms_Rro, gA_Rch, ms_Rch]
      refine hp _ (RR_un ⟨?_, ?_, ?_, ?_⟩) (by rw [← hm1]; exact (((SC.up mu (by decide) _ _).tr (SC_fill _ (by decide) _ _ _)).tr (SC.up _ (by decide) _ _)))
      · rw [fill_k (by decide), ← hm1, up_j (by decide)]; exact hb.1
      · rw [fill_k (by decide), ← hm1, up_j (by decide)]; exact hb.2.1
      · rw [fill_k (by decide), ← hm1, up_j (by decide)]; exact hb.2.2.1
      · have h4 := hb.2.2.2
        simp only [fill_k (show ¬ 114 = 117 by decide), fill_k (show ¬ 115 = 117 by decide), fill_k (show ¬ 116 = 117 by decide), fill_k (show ¬ 118 = 117 by decide), fill_k (show ¬ 119 = 117 by decide), fill_k (show ¬ 120 = 117 by decide), fill_k (show ¬ 121 = 117 by decide), fill_k (show ¬ 122 = 117 by decide), fill_k (show ¬ 123 = 117 by decide), r 114 (by decide), r 115 (by decide), r 116 (by decide), r 118 (by decide), r 119 (by decide), r 120 (by decide), r 121 (by decide), r 122 (by decide), r 123 (by decide)]
        refine ⟨h4.1, fun q hq f hf => ?_, h4.2.2⟩
        show fill m1 117 (10 * i + 2) 8 0 117 (10 * q + f) = nI (va_up (std s) i (fun _ => 0) q f)
        by_cases eq : q = i
        · subst eq
          rw [va_up_self]
          by_cases ef : 2 ≤ f
          · rw [fill_in (by omega)]; rfl
          · rw [fill_out (by omega), r 117 (by decide)]
            have := h4.2.1 q hq f hf
            rw [this]
            rcases (show f = 0 ∨ f = 1 by omega) with rfl | rfl
            · rw [hz.2.1]
            · rw [hz.2.2.1]
        · rw [va_up_ne _ _ eq, fill_out (by omega), r 117 (by decide)]; exact h4.2.1 q hq f hf
    | succ j ih =>
      intro k hk
      have ih' := ih (k + 1) (by omega)
      have h4 := hz.1 (k + 2)
      have et : fill m1 117 (10 * i + 2) k 0 117 (10 * i + (k + 2)) = nI (std s i (k + 2)) := by
        rw [fill_out (by omega), r 117 (by decide)]; exact hb.td hi (by omega)
      refine ⟨fun q => absurd q (nI_ge (show k + 2 < 10 by omega) (by decide)), fun _ => ?_⟩
      unfold wp_Rm_plain_46
      simp only [Option.some.injEq, Sum.inl.injEq, Sum.inr.injEq, Prod.mk.injEq, and_assoc, exists_eq_left', exists_eq_left, exists_and_left, exists_and_right, exists_eq', exists_eq, forall_eq, forall_eq', true_and, and_true, exists_const, Hm_1, gC_Rm, gF_Rm_0, fs_Rm_0, gF_Rm_1, fs_Rm_1, gF_Rm_2, fs_Rm_2, gF_Rm_3, gF_Rm_4, gF_Rm_5, gF_Rm_6, gF_Rm_7, gF_Rm_8, gF_Rm_9, gF_Rm_10, fs_Rm_10, gF_Rm_11, gF_Rm_12, gF_Rm_13, gF_Rm_14, gF_Rm_15, gF_Rm_16, gF_Rm_17, gF_Rm_18, gF_Rm_19, fs_Rm_19, gF_Rm_20, gF_Rm_21, gF_Rm_22, gF_Rm_23, gF_Rm_24, fs_Rm_24, gF_Rm_25, gA_Rle, ms_Rle, gA_Roc, ms_Roc, gA_Ral, ms_Ral, gA_Rto, ms_Rto, gA_Rlo, ms_Rlo, gA_Rhi, ms_Rhi, gA_Rho, ms_Rho, gA_Rgi, ms_Rgi, gA_Rha, ms_Rha, gA_Ris, ms_Ris, gA_Rno, ms_Rno, gA_Rbe, ms_Rbe, gA_Rtn, ms_Rtn, gA_Rsu, ms_Rsu, gA_Rfa, ms_Rfa, gA_Rpi, ms_Rpi, gA_Rsi, ms_Rsi, gA_Rre, ms_Rre, gL_Rro, ms_Rro, gA_Rch, ms_Rch, show (10 : Int32) = nI 10 from rfl, pk_mul, nI_add, vp_in_nI (show 10 * i + (k + 2) < 120 by omega) (show 120 < 2 ^ 31 by decide), nI_clamp (show 10 * i + (k + 2) < 2 ^ 31 by omega), et, n_le0 (show std s i (k + 2) < 2 ^ 31 by omega), nI_1]
      rw [show 10 * i + (k + 2) = 10 * i + 2 + k by omega]
      simp only [fill_s]
      rw [show k + 2 + 1 = k + 1 + 2 by omega]
      simp only [sumTo, tl] at ih' ⊢
      by_cases e0 : std s i (k + 2) = 0
      · refine ⟨fun _ => ?_, fun q => absurd e0 q⟩
        simpa [e0] using ih'
      · refine ⟨fun q => absurd q e0, fun _ => ?_⟩
        simpa [show 0 < std s i (k + 2) by omega] using ih'
  have := key 8 0 rfl
  rw [fill_0] at this
  exact ⟨9, this⟩
