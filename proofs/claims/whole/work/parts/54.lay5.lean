set_option maxHeartbeats 1000000 in
theorem lb13 {K7 : Nat → Int32 → MH → Prop} {Post : MH → Prop} {s : SG} {mu : Nat → Nat → Int32} {l : Nat → Int64} (hb : RB s mu) (hw : WF s) (hz : ∀ i, i < sn s → sz s i ≤ 800) (hd : ∀ q, q < sn s → Dat s q mu) {i : Nat} (hi : i < sn s) (hp : ∀ m2, BI s mu i (sz s i) m2 → K7 113 (nI i + (-1)) (Hm m2 l)) : ∀ (u j : Nat) (m : Nat → Nat → Int32), j + u = sz s i → BI s mu i j m → wn_Rm_layBack_13 K7 Post (u + 1) 113 (nI i) (nI j) (Hm m l) := by
  have h12 := hw.n
  have z0 := hz i hi
  intro u
  induction u with
  | zero =>
    intro j m hj hB
    obtain rfl : j = sz s i := by omega
    have hdm := hB.1.dat (hd i hi)
    show wb_Rm_layBack_13 _ _ _ _ _ _ _
    unfold wb_Rm_layBack_13
    simp only [Option.some.injEq, Sum.inl.injEq, Sum.inr.injEq, Prod.mk.injEq, and_assoc, exists_eq_left', exists_eq_left, exists_and_left, exists_and_right, exists_eq', exists_eq, forall_eq, forall_eq', true_and, and_true, exists_const, Hm_1, gF_Rm_21, gA_Rsi, vp_in_nI (show i < 12 by omega) (show 12 < 2 ^ 31 by decide), nI_clamp (show i < 2 ^ 31 by omega), hdm.2.2.2.1, nI_leI (show sz s i < 2 ^ 31 by omega) (show sz s i < 2 ^ 31 by omega)]
    exact ⟨fun _ => hp m hB, fun e => absurd (Nat.le_refl _) e⟩
  | succ u ih =>
    intro j m hj hB
    have hbm := hB.1.rb hb
    have hdm := hB.1.dat (hd i hi)
    show wb_Rm_layBack_13 _ _ _ _ _ _ _
    unfold wb_Rm_layBack_13 wp_Rm_layBack_50
    simp only [Option.some.injEq, Sum.inl.injEq, Sum.inr.injEq, Prod.mk.injEq, and_assoc, exists_eq_left', exists_eq_left, exists_and_left, exists_and_right, exists_eq', exists_eq, forall_eq, forall_eq', true_and, and_true, exists_const, Hm_1, gF_Rm_21, gF_Rm_22, gF_Rm_2, gA_Rsi, gA_Rre, ms_Rre, hbm.2.1, n_sub1 (show 1 ≤ sn s by omega), vp_in_nI (show i < 12 by omega) (show 12 < 2 ^ 31 by decide), nI_clamp (show i < 2 ^ 31 by omega), hdm.2.2.2.1, nI_leI (show sz s i < 2 ^ 31 by omega) (show j < 2 ^ 31 by omega), show (800 : Int32) = nI 800 from rfl, pk_mul, nI_add, vp_in_nI (show 800 * i + j < 9600 by omega) (show 9600 < 2 ^ 31 by decide), nI_clamp (show 800 * i + j < 2 ^ 31 by omega), nI_eq (show i < 2 ^ 31 by omega) (show sn s - 1 < 2 ^ 31 by omega)]
    refine ⟨fun e => absurd e (by omega), fun _ => ⟨fun e => ?_, fun e => ?_⟩⟩
    · refine ⟨_, lb53 hb hw hz hd (show i + 1 < sn s by omega) (show j < sz s i by omega) (fun m2 h2 => ih (j + 1) m2 (by omega) h2) (sz s (i + 1)) 0 _ (by omega) (hB.up (by omega) _) ?_⟩
      rw [up_at]; rfl
    · refine ⟨1, ?_⟩
      have hB2 : BI s mu i (j + 1) (up m 131 (800 * i + j) 0) := by
        have h := hB.up (jj := j) (by omega) 0
        refine ⟨h.1, h.2.1, fun k hk => ?_⟩
        by_cases e2 : k = j
        · subst e2; rw [up_at, RsT_l (by omega)]; rfl
        · exact h.2.2 k (by omega)
      have hb2 := hB2.1.rb hb
      show wb_Rm_layBack_53 _ _ _ _ _ _ _ _ _
      unfold wb_Rm_layBack_53 wp_Rm_layBack_207
      simp only [Option.some.injEq, Sum.inl.injEq, Sum.inr.injEq, Prod.mk.injEq, and_assoc, exists_eq_left', exists_eq_left, exists_and_left, exists_and_right, exists_eq', exists_eq, forall_eq, forall_eq', true_and, and_true, exists_const, Hm_1, gF_Rm_2, hb2.2.1, n_sub1 (show 1 ≤ sn s by omega), nI_1, nI_leI (show sn s - 1 < 2 ^ 31 by omega) (show i < 2 ^ 31 by omega)]
      exact ⟨fun _ => ih (j + 1) _ (by omega) hB2, fun q => absurd (by omega) q⟩
theorem lb7 {Post : MH → Prop} {s : SG} {mu : Nat → Nat → Int32} {l : Nat → Int64} (hb : RB s mu) (hw : WF s) (hz : ∀ i, i < sn s → sz s i ≤ 800) (hd : ∀ q, q < sn s → Dat s q mu) (hp : ∀ m2, B45 mu m2 → (∀ q, q < sn s → ∀ k, k < sz s q → m2 131 (800 * q + k) = nI (RsT s q k)) → Post (Hm m2 l)) : ∀ (u : Nat) (m : Nat → Nat → Int32), u ≤ sn s → B45 mu m → (∀ q, u ≤ q → q < sn s → ∀ k, k < sz s q → m 131 (800 * q + k) = nI (RsT s q k)) → wn_Rm_layBack_7 Post (u + 1) 113 (iI ((u : Int) - 1)) (Hm m l) := by
  have h12 := hw.n
  intro u
  induction u with
  | zero =>
    intro m _ hB hR
    exact ⟨fun _ => hp m hB (fun q hq k hk => hR q (by omega) hq k hk), fun e => absurd (by decide) e⟩
  | succ u ih =>
    intro m hu hB hR
    have e1 : iI (((u + 1 : Nat) : Int) - 1) = nI u := by rw [iI_n]; congr 1; omega
    rw [e1]
    refine ⟨fun e => ?_, fun _ => ?_⟩
    · exact absurd e (by rw [show (0 : Int32) = nI 0 from rfl, nI_ltI (by omega) (by decide)]; omega)
    · refine ⟨_, lb13 hb hw hz hd (show u < sn s by omega) (fun m2 h2 => ?_) (sz s u) 0 m (by omega) ⟨hB, fun q h1 h2 k hk => hR q (by omega) h2 k hk, fun k hk => absurd hk (by omega)⟩⟩
      have e2 : nI u + (-1) = iI ((u : Int) - 1) := by rw [iI_n, show (-1 : Int32) = iI (-1) from rfl, iI_add]; rfl
      rw [e2]
      refine ih m2 (by omega) h2.1 (fun q h1 h3 k hk => ?_)
      by_cases e : q = u
      · subst e; exact h2.2.2 k hk
      · exact h2.2.1 q (by omega) h3 k hk
theorem sp_Rm_layBack {Post : MH → Prop} {s : SG} {mu : Nat → Nat → Int32} {l : Nat → Int64} (hb : RB s mu) (hw : WF s) (hz : ∀ i, i < sn s → sz s i ≤ 800) (hd : ∀ q, q < sn s → Dat s q mu) (hp : ∀ m2, B45 mu m2 → (∀ q, q < sn s → ∀ k, k < sz s q → m2 131 (800 * q + k) = nI (RsT s q k)) → Post (Hm m2 l)) : wp_Rm_layBack Post 113 (Hm mu l) := by
  unfold wp_Rm_layBack
  simp only [Option.some.injEq, Sum.inl.injEq, Sum.inr.injEq, Prod.mk.injEq, and_assoc, exists_eq_left', exists_eq_left, exists_and_left, exists_and_right, exists_eq', exists_eq, forall_eq, forall_eq', true_and, and_true, exists_const, Hm_1, gF_Rm_2, hb.2.1]
  rw [iI_n, show (1 : Int32) = iI 1 from rfl, iI_sub]
  exact ⟨_, lb7 hb hw hz hd hp (sn s) mu (Nat.le_refl _) (fun _ _ _ _ => rfl) (fun q h1 h2 => absurd h2 (by omega))⟩
theorem TI.dat {s : SG} {i : Nat} {mu m : Nat → Nat → Int32} (h : TI s i mu m (VL s i)) : Dat s i m := ⟨h.2.1, h.2.2.1, h.2.2.2.1, h.2.2.2.2.2.1, h.2.2.2.2.2.2⟩
theorem Fr.dat {s : SG} {i q : Nat} {mu m : Nat → Nat → Int32} (hz : sz s q ≤ 800) (h : Fr i mu m) (hd : Dat s q mu) (hq : ¬ q = i) : Dat s q m := by
  unfold Dat at *
  rw [h.2.1 126 q (by decide) (by decide) hq, h.2.1 127 q (by decide) (by decide) hq, h.2.1 128 q (by decide) (by decide) hq, h.2.1 130 q (by decide) (by decide) hq]
  refine ⟨hd.1, hd.2.1, hd.2.2.1, hd.2.2.2.1, fun k hk => ?_⟩
  have hk2 : k < 800 := Nat.lt_of_lt_of_le hk hz
  have h3 := hd.2.2.2.2 k hk
  rw [h.2.2 _ (by omega), h.2.2 _ (by omega), h.2.2 _ (by omega)]
  exact h3
theorem lay20 {Post : MH → Prop} {s : SG} {mu0 : Nat → Nat → Int32} (hw : WF s) (hz : ∀ i, i < sn s → sz s i ≤ 800) (hp : ∀ m2 l2, RR s m2 l2 → m2 113 19 = 1 → Laid s m2 l2 → SC mu0 m2 → Post (Hm m2 l2)) : ∀ (u i : Nat) (m : Nat → Nat → Int32) (l : Nat → Int64), i + u = sn s → LI s mu0 i m l → wn_Rm_lay_20 Post (u + 1) 113 (nI i) (Hm m l) := by
  have h12 := hw.n
  intro u
  induction u with
  | zero =>
    intro i m l hi hI
    obtain rfl : i = sn s := by omega
    obtain ⟨hb, h19, h24, hsc, hd, hl⟩ := hI
    show wb_Rm_lay_20 _ _ _ _ _
    unfold wb_Rm_lay_20
    simp only [Option.some.injEq, Sum.inl.injEq, Sum.inr.injEq, Prod.mk.injEq, and_assoc, exists_eq_left', exists_eq_left, exists_and_left, exists_and_right, exists_eq', exists_eq, forall_eq, forall_eq', true_and, and_true, exists_const, Hm_1, gF_Rm_2, gC_Rm, hb.2.1, nI_leI (show sn s < 2 ^ 31 by omega) (show sn s < 2 ^ 31 by omega)]
    refine ⟨fun _ => ?_, fun e => absurd (Nat.le_refl _) e⟩
    refine sp_Rm_layBack hb hw hz hd (fun m2 h2 hR => ?_)
    have hb2 := h2.rb hb
    have e113 := h2 113 (by decide) (by decide) (by decide)
    have hL : Laid s m2 l := by
      refine ⟨fun i hi => ?_, fun i hi => ?_, fun i hi k hk => ⟨hl i hi k hk, hR i hi k hk⟩, by rw [e113]; exact h24⟩
      · have := h2.dat (hd i hi); exact ⟨this.1, this.2.1, this.2.2.1⟩
      · have := h2.dat (hd i hi); exact ⟨this.2.2.2.1, this.2.2.2.2⟩
    exact hp m2 l ⟨hb2, Or.inr ⟨by rw [e113]; exact h19, hL⟩⟩ (by rw [e113]; exact h19) hL (hsc.tr (fun k hk => h2 k (by omega) (by omega) (by omega)))
  | succ u ih =>
    intro i m l hi hI
    obtain ⟨hb, h19, h24, hsc, hd, hl⟩ := hI
    have hin : i < sn s := by omega
    show wb_Rm_lay_20 _ _ _ _ _
    unfold wb_Rm_lay_20
    simp only [Option.some.injEq, Sum.inl.injEq, Sum.inr.injEq, Prod.mk.injEq, and_assoc, exists_eq_left', exists_eq_left, exists_and_left, exists_and_right, exists_eq', exists_eq, forall_eq, forall_eq', true_and, and_true, exists_const, Hm_1, gF_Rm_2, gC_Rm, hb.2.1, nI_leI (show sn s < 2 ^ 31 by omega) (show i < 2 ^ 31 by omega)]
    refine ⟨fun e => absurd e (by omega), fun _ => ?_⟩
    refine sp_Rm_tryAll hb hw hin (hz i hin) (fun m2 h2 => ?_)
    have e113 := h2.1.1 113 (by omega)
    refine ⟨_, lay37 (mu0 := mu0) (RB_Fr hb h2.1) hw hz hin (by rw [e113]; exact h19) (by rw [e113]; exact h24) (hsc.tr (fun k hk => h2.1.1 k (by omega))) (fun q hq => ?_) (fun m3 l3 h3 => ih (i + 1) m3 l3 (by omega) h3) (sz s i) 0 m2 l (by omega) (S45.rf m2) hl (fun q hq => absurd hq (by omega))⟩
    by_cases e : q = i
    · subst e; exact h2.dat
    · exact h2.1.dat (hz q (by omega)) (hd q (by omega)) e
theorem sp_Rm_lay {Post : MH → Prop} {s : SG} {mu : Nat → Nat → Int32} {l : Nat → Int64} (hr : RR s mu l) (hw : WF s) (hz : ∀ i, i < sn s → sz s i ≤ 800) (hp : ∀ m2 l2, RR s m2 l2 → m2 113 19 = 1 → Laid s m2 l2 → SC mu m2 → Post (Hm m2 l2)) : wp_Rm_lay Post 113 (Hm mu l) := by
  unfold wp_Rm_lay
  simp only [Option.some.injEq, Sum.inl.injEq, Sum.inr.injEq, Prod.mk.injEq, and_assoc, exists_eq_left', exists_eq_left, exists_and_left, exists_and_right, exists_eq', exists_eq, forall_eq, forall_eq', true_and, and_true, exists_const, Hm_1, gF_Rm_19, gF_Rm_24, fs_Rm_19, fs_Rm_24]
  refine ⟨fun e => ?_, fun e => ?_⟩
  · refine ⟨_, lay20 hw hz hp (sn s) 0 _ l (by omega) ⟨RB_t (RB_t hr.1 (by decide) _) (by decide) _, ?_, up_at .., (SC.up mu (by decide) _ _).tr (SC.up _ (by decide) _ _), fun q hq => absurd hq (by omega), fun q hq => absurd hq (by omega)⟩⟩
    rw [up_j (by decide), up_at]
  · rcases hr.2 with q | ⟨q, g⟩
    · exact absurd q e
    · exact hp mu l hr q g (SC.rf mu)
