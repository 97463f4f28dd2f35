theorem RB_of {s : SG} {mu mu2 : Nat → Nat → Int32} (hb : RB s mu) (h1 : mu2 113 1 = mu 113 1) (h2 : mu2 113 2 = mu 113 2) (h10 : mu2 113 10 = mu 113 10) (hr : ∀ k, 114 ≤ k → k ≤ 123 → mu2 k = mu k) : RB s mu2 := by
  unfold RB at hb ⊢
  rw [h1, h2, h10, hr 114 (by decide) (by decide), hr 115 (by decide) (by decide), hr 116 (by decide) (by decide), hr 117 (by decide) (by decide), hr 118 (by decide) (by decide), hr 119 (by decide) (by decide), hr 120 (by decide) (by decide), hr 121 (by decide) (by decide), hr 122 (by decide) (by decide), hr 123 (by decide) (by decide)]
  exact hb
theorem RB_up {s : SG} {mu : Nat → Nat → Int32} (hb : RB s mu) {k : Nat} (hk : k < 113 ∨ 124 ≤ k) (j : Nat) (v : Int32) : RB s (up mu k j v) := by
  refine RB_of hb ?_ ?_ ?_ (fun q h1 h2 => up_k (by omega))
  all_goals rw [up_k (by omega)]
theorem RB_t {s : SG} {mu : Nat → Nat → Int32} (hb : RB s mu) {j : Nat} (hj : j ≠ 1 ∧ j ≠ 2 ∧ j ≠ 10) (v : Int32) : RB s (up mu 113 j v) := by
  refine RB_of hb ?_ ?_ ?_ (fun q h1 h2 => up_k (by omega))
  all_goals rw [up_j (by omega)]
set_option maxHeartbeats 1000000 in
theorem sp_Rm_many_i1 (Post : Int32 → MH → Prop) {s : SG} {mu : Nat → Nat → Int32} (hb : RB s mu) {i : Nat} (h12 : sn s ≤ 12) (h44 : ∀ f, std s i f ≤ 4) (hi : i < sn s) (l : Nat → Int64) (hp : Post (nI (cntW s i 8)) (Hm mu l)) : wp_Rm_many_i1 Post 113 (nI i) (Hm mu l) := by
  have T := fun (P : Int32 → MH → Prop) => sp_isWorked0 P hb h12 h44 hi l
  have key : ∀ j k, k + j = 8 → wn_Rm_many_i1_4 Post (j + 1) 113 (nI i) (nI (cntW s i k)) (nI (k + 2)) (Hm mu l) := by
    intro j
    induction j with
    | zero =>
      intro k hk
      obtain rfl : k = 8 := by omega
      show wb_Rm_many_i1_4 _ _ _ _ _ _ _
      unfold wb_Rm_many_i1_4
      exact ⟨fun _ => hp, fun h => absurd (show (10 : Int32) ≤ nI (8 + 2) by decide) h⟩
    | succ j ih =>
      intro k hk
      show wb_Rm_many_i1_4 _ _ _ _ _ _ _
      unfold wb_Rm_many_i1_4
      refine ⟨fun h => absurd h (nI_ge (show k + 2 < 10 by omega) (by decide)), fun _ => ⟨gC_Rm mu l, ?_⟩⟩
      rw [T _ (k + 2) (by omega) (by omega)]
      have e : nI (k + 2) + 1 = nI (k + 1 + 2) := nI_1 (k + 2)
      have ih' := ih (k + 1) (by omega)
      unfold wp_Rm_many_i1_26
      simp only [bI_0, e]
      cases hW : isW s i (k + 2)
      · simp only [cntW, hW] at ih'
        exact ⟨fun _ => ih', fun h => absurd rfl h⟩
      · simp only [cntW, hW, if_true] at ih'
        exact ⟨fun h => (by cases h), fun _ => by rw [nI_1]; exact ih'⟩
  exact ⟨9, key 8 0 rfl⟩
def bit (c : Nat) : Int32 := (1 : Int32) <<< (nI c &&& 31)
def tmI (s : SG) (i : Nat) : Nat → Int32
  | 0 => 0
  | k + 1 => if isW s i (k + 2) then tmI s i k ||| bit (tcl s i (k + 2)) else tmI s i k
def smI (s : SG) (i : Nat) : Nat → Int32
  | 0 => 0
  | k + 1 => if isW s i (k + 2) && isS s i (k + 2) then smI s i k ||| bit (tcl s i (k + 2)) else smI s i k
def fmI (s : SG) (i : Nat) : Nat → Int32
  | 0 => 0
  | k + 1 => if isW s i (k + 2) && (k + 2 == 7) then fmI s i k ||| bit (tcl s i (k + 2)) else fmI s i k
def L3 (mu : Nat → Nat → Int32) (i : Nat) (a b c : Int32) : Nat → Nat → Int32 := up (up (up mu 126 i a) 127 i b) 128 i c
theorem L3_1 (mu : Nat → Nat → Int32) (i : Nat) (a b c a2 : Int32) : up (L3 mu i a b c) 126 i a2 = L3 mu i a2 b c := by
  funext q j; simp only [L3, up_ap]; by_cases h : q = 126 ∧ j = i
  · obtain ⟨rfl, rfl⟩ := h; simp
  · simp [h]
theorem L3_2 (mu : Nat → Nat → Int32) (i : Nat) (a b c a2 : Int32) : up (L3 mu i a b c) 127 i a2 = L3 mu i a a2 c := by
  funext q j; simp only [L3, up_ap]; by_cases h : q = 127 ∧ j = i
  · obtain ⟨rfl, rfl⟩ := h; simp
  · simp [h]
theorem L3_3 (mu : Nat → Nat → Int32) (i : Nat) (a b c a2 : Int32) : up (L3 mu i a b c) 128 i a2 = L3 mu i a b a2 := by
  funext q j; simp only [L3, up_ap]; by_cases h : q = 128 ∧ j = i
  · obtain ⟨rfl, rfl⟩ := h; simp
  · simp [h]
theorem L3_r1 (mu : Nat → Nat → Int32) (i : Nat) (a b c : Int32) : L3 mu i a b c 126 i = a := by simp [L3, up_ap]
theorem L3_r2 (mu : Nat → Nat → Int32) (i : Nat) (a b c : Int32) : L3 mu i a b c 127 i = b := by simp [L3, up_ap]
theorem L3_r3 (mu : Nat → Nat → Int32) (i : Nat) (a b c : Int32) : L3 mu i a b c 128 i = c := by simp [L3, up_ap]
theorem RB_L3 {s : SG} {mu : Nat → Nat → Int32} (hb : RB s mu) (i : Nat) (a b c : Int32) : RB s (L3 mu i a b c) := RB_up (RB_up (RB_up hb (by omega) _ _) (by omega) _ _) (by omega) _ _
set_option maxHeartbeats 4000000 in
theorem sp_Rm_look (Post : MH → Prop) {s : SG} {mu : Nat → Nat → Int32} (hb : RB s mu) (hw : WF s) {i : Nat} (hi : i < sn s) (l : Nat → Int64) (hp : Post (Hm (L3 mu i (tmI s i 8) (smI s i 8) (fmI s i 8)) l)) : wp_Rm_look Post 113 (nI i) (Hm mu l) := by
  have h12 := hw.n
  have hv : vp_in (nI i) 12 := vp_in_nI (by omega) (by omega)
  have hc : (nI i).toNatClampNeg = i := nI_clamp (by omega)
  have key : ∀ j k, k + j = 8 → wn_Rm_look_23 Post (j + 1) 113 (nI i) (nI (k + 2)) (Hm (L3 mu i (tmI s i k) (smI s i k) (fmI s i k)) l) := by
    intro j
    induction j with
    | zero =>
      intro k hk
      obtain rfl : k = 8 := by omega
      show wb_Rm_look_23 _ _ _ _ _ _
      unfold wb_Rm_look_23
      exact ⟨fun _ => hp, fun h => absurd (show (10 : Int32) ≤ nI (8 + 2) by decide) h⟩
    | succ j ih =>
      intro k hk
      have ih' := ih (k + 1) (by omega)
      have e : nI (k + 2) + 1 = nI (k + 1 + 2) := nI_1 (k + 2)
      have e7 : nI (k + 2) = 7 ↔ k + 2 = 7 := nI_eq (by omega) (by decide)
      have hb2 := fun a b c => RB_L3 hb i a b c
      show wb_Rm_look_23 _ _ _ _ _ _
      unfold wb_Rm_look_23
      refine ⟨fun h => absurd h (nI_ge (show k + 2 < 10 by omega) (by decide)), fun _ => ⟨gC_Rm _ l, ?_⟩⟩
      rw [sp_Rm_isWorked _ (hb2 _ _ _) hw hi l (k + 2) (by omega) (by omega)]
      cases hW : isW s i (k + 2)
      · simp only [tmI, smI, fmI, hW, Bool.false_and, Bool.false_eq_true, if_false] at ih'
        refine ⟨fun _ => ?_, fun h => absurd rfl h⟩
        unfold wp_Rm_look_122
        rw [e]
        exact ih'
      · refine ⟨fun h => (by cases h), fun _ => ⟨gC_Rm _ l, ?_⟩⟩
        rw [sp_Rm_classOf _ (hb2 _ _ _) hw hi (by omega) (by omega) l]
        intro z hz
        have hz : z = bit (tcl s i (k + 2)) := hz
        subst hz
        simp only [Option.some.injEq, Sum.inl.injEq, Sum.inr.injEq, Prod.mk.injEq, and_assoc, exists_eq_left', exists_eq_left, exists_and_left, exists_and_right, exists_eq', exists_eq, forall_eq, forall_eq', true_and, and_true, exists_const, Hm_1, gC_Rm, gF_Rm_0, fs_Rm_0, gF_Rm_1, fs_Rm_1, gF_Rm_2, fs_Rm_2, gF_Rm_3, gF_Rm_4, gF_Rm_5, gF_Rm_6, gF_Rm_7, gF_Rm_8, gF_Rm_9, gF_Rm_10, fs_Rm_10, gF_Rm_11, gF_Rm_12, gF_Rm_13, gF_Rm_14, gF_Rm_15, gF_Rm_16, gF_Rm_17, gF_Rm_18, gF_Rm_19, fs_Rm_19, gF_Rm_20, gF_Rm_21, gF_Rm_22, gF_Rm_23, gF_Rm_24, fs_Rm_24, gF_Rm_25, gA_Rle, ms_Rle, gA_Roc, ms_Roc, gA_Ral, ms_Ral, gA_Rto, ms_Rto, gA_Rlo, ms_Rlo, gA_Rhi, ms_Rhi, gA_Rho, ms_Rho, gA_Rgi, ms_Rgi, gA_Rha, ms_Rha, gA_Ris, ms_Ris, gA_Rno, ms_Rno, gA_Rbe, ms_Rbe, gA_Rtn, ms_Rtn, gA_Rsu, ms_Rsu, gA_Rfa, ms_Rfa, gA_Rpi, ms_Rpi, gA_Rsi, ms_Rsi, gA_Rre, ms_Rre, gL_Rro, ms_Rro, gA_Rch, ms_Rch, hv, hc, L3_1, L3_2, L3_3, L3_r1, L3_r2, L3_r3, sp_Rm_isSuspended _ (hb2 _ _ _) hw hi (show 2 ≤ k + 2 by omega) (show k + 2 < 10 by omega) l, wp_Rm_look_92, wp_Rm_look_121, wp_Rm_look_122, e, e7, bI_0]
        simp only [tmI, smI, fmI, hW, if_true, Bool.true_and] at ih'
        cases hS : isS s i (k + 2)
        · simp only [hS, Bool.false_eq_true, if_false] at ih'
          refine ⟨fun _ => ⟨fun h7 => ?_, fun h7 => ?_⟩, fun h => absurd rfl h⟩
          · simpa [show ¬ k = 5 by omega] using ih'
          · simpa [show k = 5 by omega] using ih'
        · simp only [hS, if_true] at ih'
          refine ⟨fun h => (by cases h), fun _ => ⟨fun h7 => ?_, fun h7 => ?_⟩⟩
          · simpa [show ¬ k = 5 by omega] using ih'
          · simpa [show k = 5 by omega] using ih'
  unfold wp_Rm_look
  simp only [Option.some.injEq, Sum.inl.injEq, Sum.inr.injEq, Prod.mk.injEq, and_assoc, exists_eq_left', exists_eq_left, exists_and_left, exists_and_right, exists_eq', exists_eq, forall_eq, forall_eq', true_and, and_true, exists_const, Hm_1, gC_Rm, gF_Rm_0, fs_Rm_0, gF_Rm_1, fs_Rm_1, gF_Rm_2, fs_Rm_2, gF_Rm_3, gF_Rm_4, gF_Rm_5, gF_Rm_6, gF_Rm_7, gF_Rm_8, gF_Rm_9, gF_Rm_10, fs_Rm_10, gF_Rm_11, gF_Rm_12, gF_Rm_13, gF_Rm_14, gF_Rm_15, gF_Rm_16, gF_Rm_17, gF_Rm_18, gF_Rm_19, fs_Rm_19, gF_Rm_20, gF_Rm_21, gF_Rm_22, gF_Rm_23, gF_Rm_24, fs_Rm_24, gF_Rm_25, gA_Rle, ms_Rle, gA_Roc, ms_Roc, gA_Ral, ms_Ral, gA_Rto, ms_Rto, gA_Rlo, ms_Rlo, gA_Rhi, ms_Rhi, gA_Rho, ms_Rho, gA_Rgi, ms_Rgi, gA_Rha, ms_Rha, gA_Ris, ms_Ris, gA_Rno, ms_Rno, gA_Rbe, ms_Rbe, gA_Rtn, ms_Rtn, gA_Rsu, ms_Rsu, gA_Rfa, ms_Rfa, gA_Rpi, ms_Rpi, gA_Rsi, ms_Rsi, gA_Rre, ms_Rre, gL_Rro, ms_Rro, gA_Rch, ms_Rch, hv, hc]
  exact ⟨9, key 8 0 rfl⟩
