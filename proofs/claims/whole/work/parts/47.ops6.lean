theorem sgC_s {s : SG} {i c : Nat} (h : sgC s (i + 1) = some c) : ∃ c0 t, sgC s i = some c0 ∧ ssg s i = some t ∧ faultN s i = 0 ∧ c = c0 + (if i = 0 then csH s (xv s i t) else csM (xv s i t) (xt s (i - 1) (ssg s (i - 1)))) := by
  unfold sgC at h
  split at h
  · rename_i c0 t e1 e2
    split at h
    · rename_i e3
      exact ⟨c0, t, e1, e2, e3, (Option.some.inj h).symm⟩
    · cases h
  · cases h
theorem sgC_some {s : SG} {i c : Nat} (h : sgC s i = some c) (h0 : 0 < i) : (ssg s (i - 1)).isSome = true := by
  obtain ⟨j, rfl⟩ : ∃ j, i = j + 1 := ⟨i - 1, by omega⟩
  obtain ⟨_, t, _, e, _, _⟩ := sgC_s h
  rw [show j + 1 - 1 = j from rfl, e]; rfl
theorem rs_sung {Post : Int32 → MH → Prop} {s : SG} {mu : Nat → Nat → Int32} {l : Nat → Int64} (hr : RR s mu l) (hw : WF s) (hp : ∀ mu2, RR s mu2 l → SC mu mu2 → Post (o_sung s) (Hm mu2 l)) : wp_Rm_sung Post 113 (Hm mu l) := by
  have h12 := hw.n
  unfold wp_Rm_sung
  simp only [Option.some.injEq, Sum.inl.injEq, Sum.inr.injEq, Prod.mk.injEq, and_assoc, exists_eq_left', exists_eq_left, exists_and_left, exists_and_right, exists_eq', exists_eq, forall_eq, forall_eq', true_and, and_true, exists_const, Hm_1, gF_Rm_0, fs_Rm_0]
  have key : ∀ (j i c : Nat) (m : Nat → Nat → Int32), i + j = sn s → sgC s i = some c → c ≤ 381 * i → RR s m l → SC mu m → wn_Rm_sung_9 Post (j + 1) 113 (nI c) (nI i) (Hm m l) := by
    intro j
    induction j with
    | zero =>
      intro i c m hi hc hle hm sc
      obtain rfl : i = sn s := by omega
      show wb_Rm_sung_9 _ _ _ _ _ _
      unfold wb_Rm_sung_9
      simp only [Option.some.injEq, Sum.inl.injEq, Sum.inr.injEq, Prod.mk.injEq, and_assoc, exists_eq_left', exists_eq_left, exists_and_left, exists_and_right, exists_eq', exists_eq, forall_eq, forall_eq', true_and, and_true, exists_const, Hm_1, gF_Rm_2, hm.1.2.1, nI_leI (show sn s < 2 ^ 31 by omega) (show sn s < 2 ^ 31 by omega), n_eq0 (show sn s < 2 ^ 31 by omega)]
      have hq := hp _ hm sc
      unfold o_sung at hq
      rw [hc] at hq
      refine ⟨fun _ => ⟨fun e => ?_, fun e => ?_⟩, fun q => absurd (Nat.le_refl _) q⟩
      · rw [if_neg e] at hq; exact hq
      · rw [if_pos e] at hq; exact hq
    | succ j ih =>
      intro i c m hi hc hle hm sc
      have hin : i < sn s := by omega
      have bad : sgC s (i + 1) = none → ∀ m2, RR s m2 l → SC mu m2 → Post (-2) (Hm m2 l) := by
        intro e m2 h1 h2
        have hq := hp _ h1 h2
        unfold o_sung at hq
        rw [if_neg (by omega), sgC_none e (sn s) (by omega)] at hq
        exact hq
      show wb_Rm_sung_9 _ _ _ _ _ _
      unfold wb_Rm_sung_9
      simp only [Option.some.injEq, Sum.inl.injEq, Sum.inr.injEq, Prod.mk.injEq, and_assoc, exists_eq_left', exists_eq_left, exists_and_left, exists_and_right, exists_eq', exists_eq, forall_eq, forall_eq', true_and, and_true, exists_const, Hm_1, gC_Rm, gF_Rm_0, fs_Rm_0, gF_Rm_1, fs_Rm_1, gF_Rm_2, fs_Rm_2, gF_Rm_3, gF_Rm_4, gF_Rm_5, gF_Rm_6, gF_Rm_7, gF_Rm_8, gF_Rm_9, gF_Rm_10, fs_Rm_10, gF_Rm_11, gF_Rm_12, gF_Rm_13, gF_Rm_14, gF_Rm_15, gF_Rm_16, gF_Rm_17, gF_Rm_18, gF_Rm_19, fs_Rm_19, gF_Rm_20, gF_Rm_21, gF_Rm_22, gF_Rm_23, gF_Rm_24, fs_Rm_24, gF_Rm_25, gA_Rle, ms_Rle, gA_Roc, ms_Roc, gA_Ral, ms_Ral, gA_Rto, ms_Rto, gA_Rlo, ms_Rlo, gA_Rhi, ms_Rhi, gA_Rho, ms_Rho, gA_Rgi, ms_Rgi, gA_Rha, ms_Rha, gA_Ris, ms_Ris, gA_Rno, ms_Rno, gA_Rbe, ms_Rbe, gA_Rtn, ms_Rtn, gA_Rsu, ms_Rsu, gA_Rfa, ms_Rfa, gA_Rpi, ms_Rpi, gA_Rsi, ms_Rsi, gA_Rre, ms_Rre, gL_Rro, ms_Rro, gA_Rch, ms_Rch, hm.1.2.1, nI_leI (show sn s < 2 ^ 31 by omega) (show i < 2 ^ 31 by omega), vp_in_nI (show i < 12 by omega) (show 12 < 2 ^ 31 by decide), nI_clamp (show i < 2 ^ 31 by omega), (hm.1.2.2.2.2.2.2.2 i hin).1, bI_0]
      refine ⟨fun q => absurd q (by omega), fun _ => ?_⟩
      cases es : ssg s i with
      | none => exact ⟨fun _ => bad (by unfold sgC; rw [hc, es]) _ hm sc, fun q => absurd rfl q⟩
      | some t =>
        obtain ⟨a, b, d⟩ := t
        refine ⟨fun q => (by cases q), fun _ => ?_⟩
        have hx := xv_rg hw hin es
        refine sp_Rm_faultOf hm.1 hw hin es (fun m2 hk row rowB => ?_)
        have hm2 := RR_Mk hm hk
        have sc2 := sc.tr (SC_Mk hk)
        have hfl : faultN s i ≤ 11 := by
          unfold faultN
          rw [es]
          have q1 := alone_le s i a b d
          have q2 := pair0_le s (xv s i (a, b, d))
          have q3 := pairR_le s i (xv s i (a, b, d)) (xt s (i - 1) (ssg s (i - 1)))
          simp only []
          repeat' split
          all_goals omega
        rw [n_le0 (by omega)]
        by_cases e0 : faultN s i = 0
        · refine ⟨fun _ => ⟨gC_Rm _ l, ?_⟩, fun q => absurd e0 q⟩
          have hs1 : sgC s (i + 1) = some (c + (if i = 0 then csH s (xv s i (a, b, d)) else csM (xv s i (a, b, d)) (xt s (i - 1) (ssg s (i - 1))))) := by
            show (match sgC s i, ssg s i with | some c, some t => _ | _, _ => none) = _
            rw [hc, es]
            simp only [e0, if_true]
          by_cases ei : i = 0
          · subst ei
            rw [if_pos rfl] at hs1
            refine sp_Rm_cost0 hm2.1 hw row ?_
            rw [nI_add, nI_1]
            exact ih 1 _ m2 (by omega) hs1 (by have := csH_le hw hx; omega) hm2 sc2
          · rw [if_neg ei] at hs1
            have hsm := sgC_some hc (by omega)
            have hal : alone s i a b d = 0 := by
              unfold faultN at e0
              rw [es] at e0
              simp only [] at e0
              by_cases q : alone s i a b d = 0
              · exact q
              · rw [if_neg q] at e0; exact e0
            have rB := rowB (by omega) hsm hal
            refine sp_Rm_cost (by omega) (by omega) row rB ?_
            rw [nI_add, nI_1]
            exact ih (i + 1) _ m2 (by omega) hs1 (by have := csM_le hx (fun v hv => (rB v hv).2); omega) hm2 sc2
        · refine ⟨fun q => absurd q e0, fun _ => bad ?_ _ hm2 sc2⟩
          show (match sgC s i, ssg s i with | some c, some t => _ | _, _ => none) = _
          rw [hc, es]
          simp only [e0, if_false]
  exact ⟨sn s + 1, key (sn s) 0 0 _ (by omega) rfl (by omega) (RR_0 hr 0) (SC.up mu (by decide) _ _)⟩
