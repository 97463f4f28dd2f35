def CF (mu m : Nat → Nat → Int32) : Prop := ∀ k, 113 ≤ k → m k = mu k
theorem CF.rf (mu : Nat → Nat → Int32) : CF mu mu := fun _ _ => rfl
theorem RC.of {t : SG} {mu m : Nat → Nat → Int32} (h : RC t mu) (hw : WF t) (e : ∀ k, k ≤ 108 → ¬ (104 ≤ k ∧ k ≤ 107) → m k = mu k) : RC t m := by
  have hn := hw.n
  refine ⟨h.1.of hw (e 0 (by omega) (by omega)) (fun q _ _ => e q (by omega) (by omega)) (fun q hq => ⟨e _ (by omega) (by omega), e _ (by omega) (by omega), e _ (by omega) (by omega)⟩), fun i hi => (h.2.1 i hi).k (e _ (by omega) (by omega)) (e _ (by omega) (by omega)), ?_⟩
  have h3 := h.2.2
  unfold Stt at *
  rw [e 1 (by omega) (by omega), e 108 (by omega) (by omega)]
  exact h3
theorem RC.mf {t : SG} {mu m : Nat → Nat → Int32} (h : RC t mu) (hw : WF t) (f : MF 109 mu m) : RC t m := h.of hw (fun k h1 _ => f k (by omega))
theorem MF.cf {mu m : Nat → Nat → Int32} (f : MF 109 mu m) : CF mu m := fun k h => f k (by omega)
theorem RC.fc {t : SG} {mu m : Nat → Nat → Int32} (h : RC t mu) (hw : WF t) {i : Nat} (hi : i < sn t) (f : Fc i mu m) (hL : Lst t i m) (h5 : m (11 + 8 * i) 5 = 1) : RC t m := by
  have hn := hw.n
  refine ⟨h.1.of hw (f 0 (by omega) (by omega)) (fun q _ _ => f q (by omega) (by omega)) (fun q hq => ⟨f _ (by omega) (by omega), f _ (by omega) (by omega), f _ (by omega) (by omega)⟩), fun q hq => ?_, ?_⟩
  · by_cases e : q = i
    · subst e; exact Or.inr ⟨h5, hL⟩
    · exact (h.2.1 q hq).k (f _ (by omega) (by omega)) (f _ (by omega) (by omega))
  · have h3 := h.2.2
    unfold Stt at *
    rw [f 1 (by omega) (by omega), f 108 (by omega) (by omega)]
    exact h3
theorem inI_d (x : Int32) (a b : Int) : decide (a ≤ x.toInt ∧ x.toInt ≤ b) = inI x a b := rfl
theorem t0 : ((0 : Int32)).toInt = 0 := rfl
theorem t1 : ((1 : Int32)).toInt = 1 := rfl
theorem t2 : ((2 : Int32)).toInt = 2 := rfl
theorem t3 : ((3 : Int32)).toInt = 3 := rfl
theorem t5 : ((5 : Int32)).toInt = 5 := rfl
theorem t6 : ((6 : Int32)).toInt = 6 := rfl
theorem t7 : ((7 : Int32)).toInt = 7 := rfl
theorem t8 : ((8 : Int32)).toInt = 8 := rfl
theorem t9 : ((9 : Int32)).toInt = 9 := rfl
theorem t11 : ((11 : Int32)).toInt = 11 := rfl
theorem t12 : ((12 : Int32)).toInt = 12 := rfl
theorem t14 : ((14 : Int32)).toInt = 14 := rfl
theorem t24 : ((24 : Int32)).toInt = 24 := rfl
theorem tm1 : ((-1 : Int32)).toInt = -1 := rfl
theorem tm7 : ((-7 : Int32)).toInt = -7 := rfl
theorem cs_bass {Post : Int32 → MH → Prop} {s : SG} {mu : Nat → Nat → Int32} {l : Nat → Int64} (hr : RC s mu) (hw : WF s) (x : Int32) (hp : ∀ mu2, RC s mu2 → CF mu mu2 → Post (o_bass s x) (Hm mu2 l)) : wp_Br_bass Post 0 x (Hm mu l) := by
  have hn := hw.n
  have p0 := hp mu hr (CF.rf mu)
  unfold o_bass at p0
  unfold wp_Br_bass
  simp only [gC_Br, true_and, sp_Br_hasChord _ hr.1.1 hw, bI_0]
  cases e1 : hasC s x
  · rw [e1] at p0; exact ⟨fun _ => p0, fun q => absurd rfl q⟩
  · rw [e1] at p0
    refine ⟨fun q => (by cases q), fun _ => ?_⟩
    obtain ⟨ex, hi⟩ := hasC_ix hw e1
    replace p0 : Post (nI (bN s (ix x))) (Hm mu l) := p0
    generalize ix x = i at ex hi p0
    subst ex
    have h12 : i < 12 := by omega
    simp only [Option.some.injEq, Sum.inl.injEq, Sum.inr.injEq, Prod.mk.injEq, and_assoc, exists_eq_left', exists_eq_left, exists_and_left, exists_and_right, exists_eq', exists_eq, forall_eq, forall_eq', true_and, and_true, exists_const, Hm_1, gF_Br_1, gR_CA, vp_in_nI h12 (show 12 < 2 ^ 31 by decide), nI_clamp (show i < 2 ^ 31 by omega), if_pos h12, gF_ch_1 _ _ h12, (hr.1.2 i hi).1.2.1]
    exact p0
set_option maxHeartbeats 1000000 in
theorem cs_worked {Post : Int32 → MH → Prop} {s : SG} {mu : Nat → Nat → Int32} {l : Nat → Int64} (hr : RC s mu) (hw : WF s) (x k w : Int32) (hp : ∀ mu2, RC s mu2 → CF mu mu2 → Post (o_worked s x k w) (Hm mu2 l)) : wp_Br_worked Post 0 x k w (Hm mu l) := by
  have hn := hw.n
  have p0 := hp mu hr (CF.rf mu)
  unfold o_worked at p0
  unfold wp_Br_worked
  simp only [gC_Br, true_and, sp_Br_hasChord _ hr.1.1 hw, sp_Br_within, t0, t7, inI_d, bI_0]
  cases e1 : hasC s x
  · rw [e1] at p0; exact ⟨fun _ => p0, fun q => absurd rfl q⟩
  · refine ⟨fun q => (by cases q), fun _ => ?_⟩
    cases e2 : inI w 0 7
    · rw [e1, e2] at p0; exact ⟨fun q => absurd rfl q, fun _ => p0⟩
    · refine ⟨fun _ => ?_, fun q => (by cases q)⟩
      rw [e1, e2] at p0
      obtain ⟨ex, hi⟩ := hasC_ix hw e1
      obtain ⟨ew, h7⟩ := inI_ix (b := 7) (by decide) e2
      replace p0 : Post (if ix w = 7 then nI (cntW s (ix x) 8) else (match nth s (ix x) k.toInt 8 0 0 with | some f => aboutW s (ix x) f (ix w) | none => -1)) (Hm mu l) := p0
      generalize ix x = i at ex hi p0
      generalize ix w = y at ew h7 p0
      subst ex ew
      have h12 : i < 12 := by omega
      have hc := hr.1.2 i hi
      have cl := cntW_le s i 8
      have e7 : nI y = 7 ↔ y = 7 := nI_eq (b := 7) (by omega) (by decide)
      have es : (nI (cntW s i 8) - 1).toInt = (cntW s i 8 : Int) - 1 := by
        rw [show (1 : Int32) = nI 1 from rfl]; exact pk_sub_toInt (by omega) (by omega)
      simp only [Option.some.injEq, Sum.inl.injEq, Sum.inr.injEq, Prod.mk.injEq, and_assoc, exists_eq_left', exists_eq_left, exists_and_left, exists_and_right, exists_eq', exists_eq, forall_eq, forall_eq', true_and, and_true, exists_const, Hm_1, gF_Br_1, gR_CA, vp_in_nI h12 (show 12 < 2 ^ 31 by decide), nI_clamp (show i < 2 ^ 31 by omega), if_pos h12, gF_ch_3 _ _ h12, hc.2.1.1, sp_In_bitCount, cnt8_W, e7, es, inI_d, gC_ch _ _ h12]
      refine ⟨fun e => ?_, fun e => by rw [if_pos e] at p0; exact p0⟩
      rw [if_neg e] at p0
      unfold inI
      rw [decide_eq_false_iff_not]
      have w8 := wN_8 s i
      refine ⟨fun q => ?_, fun q => sp_Ch_nthWorked h12 hc.2.1.1 ?_⟩
      · rw [nth_no s i k.toInt 8 0 0 (by rw [w8]; omega)] at p0
        exact p0
      · obtain ⟨f, hf, h2, h3⟩ := nth_sm s i k.toInt 8 0 0 (by omega) (by rw [w8]; omega)
        rw [hf] at p0 ⊢
        simp only [Option.some.injEq, Sum.inl.injEq, Sum.inr.injEq, Prod.mk.injEq, and_assoc, exists_eq_left', exists_eq_left, exists_and_left, exists_and_right, exists_eq', exists_eq, forall_eq, forall_eq', true_and, and_true, exists_const, Hm_1, gF_Br_2, gF_Ru_4, hr.1.1.2.2.1, gC_ch _ _ h12]
        exact sp_Ch_about hw hi hc.1 hc.2.1.1 (by omega) (by omega) (by omega) p0
theorem cs_voicings {Post : Int32 → MH → Prop} {s : SG} {mu : Nat → Nat → Int32} {l : Nat → Int64} (hr : RC s mu) (hw : WF s) (x : Int32) (hp : ∀ mu2, RC s mu2 → CF mu mu2 → Post (o_voicings s x) (Hm mu2 l)) : wp_Br_voicings Post 0 x (Hm mu l) := by
  have hn := hw.n
  have p0 := hp mu hr (CF.rf mu)
  unfold o_voicings at p0 hp
  unfold wp_Br_voicings
  simp only [gC_Br, true_and, sp_Br_hasChord _ hr.1.1 hw, bI_0]
  cases e1 : hasC s x
  · rw [e1] at p0; exact ⟨fun _ => p0, fun q => absurd rfl q⟩
  · rw [e1] at hp
    refine ⟨fun q => (by cases q), fun _ => ?_⟩
    obtain ⟨ex, hi⟩ := hasC_ix hw e1
    replace hp : ∀ mu2, RC s mu2 → CF mu mu2 → Post (nI (sz s (ix x))) (Hm mu2 l) := hp
    clear p0
    generalize ix x = i at ex hi hp
    subst ex
    have h12 : i < 12 := by omega
    simp only [Option.some.injEq, Sum.inl.injEq, Sum.inr.injEq, Prod.mk.injEq, and_assoc, exists_eq_left', exists_eq_left, exists_and_left, exists_and_right, exists_eq', exists_eq, forall_eq, forall_eq', true_and, and_true, exists_const, Hm_1, gF_Br_0, gC_Se]
    refine sp_Se_listed hr.1 hw hi (hr.2.1 i hi) (fun m2 f2 l2 g2 => ?_)
    simp only [Option.some.injEq, Sum.inl.injEq, Sum.inr.injEq, Prod.mk.injEq, and_assoc, exists_eq_left', exists_eq_left, exists_and_left, exists_and_right, exists_eq', exists_eq, forall_eq, forall_eq', true_and, and_true, exists_const, Hm_1, gF_co_4 _ _ h12, l2.1]
    exact hp m2 (hr.fc hw hi f2 l2 g2) (fun k hk => f2 k (by omega) (by omega))
theorem cs_voicing {Post : Int32 → MH → Prop} {s : SG} {mu : Nat → Nat → Int32} {l : Nat → Int64} (hr : RC s mu) (hw : WF s) (x k v : Int32) (hp : ∀ mu2, RC s mu2 → CF mu mu2 → Post (o_voicing s x k v) (Hm mu2 l)) : wp_Br_voicing Post 0 x k v (Hm mu l) := by
  have hn := hw.n
  have p0 := hp mu hr (CF.rf mu)
  unfold o_voicing at p0 hp
  unfold wp_Br_voicing
  simp only [gC_Br, true_and, sp_Br_hasChord _ hr.1.1 hw, sp_Br_isVoice, inI_d, bI_0]
  cases e1 : hasC s x
  · rw [e1] at p0; exact ⟨fun _ => p0, fun q => absurd rfl q⟩
  · refine ⟨fun q => (by cases q), fun _ => ?_⟩
    cases e2 : inI v 0 2
    · rw [e1, e2] at p0; exact ⟨fun q => absurd rfl q, fun _ => p0⟩
    · refine ⟨fun _ => ?_, fun q => (by cases q)⟩
      rw [e1, e2] at hp
      obtain ⟨ex, hi⟩ := hasC_ix hw e1
      obtain ⟨ev, h2⟩ := inI_ix (b := 2) (by decide) e2
      replace hp : ∀ mu2, RC s mu2 → CF mu mu2 → Post (if inI k 0 ((sz s (ix x) : Int) - 1) then nI (vv s (ix x) (ix k) (ix v)) else -1) (Hm mu2 l) := hp
      clear p0
      generalize ix x = i at ex hi hp
      generalize ix v = y at ev h2 hp
      subst ex ev
      have h12 : i < 12 := by omega
      have hz := sz_112 hw hi
      simp only [Option.some.injEq, Sum.inl.injEq, Sum.inr.injEq, Prod.mk.injEq, and_assoc, exists_eq_left', exists_eq_left, exists_and_left, exists_and_right, exists_eq', exists_eq, forall_eq, forall_eq', true_and, and_true, exists_const, Hm_1, gF_Br_0, gC_Se]
      refine sp_Se_listed hr.1 hw hi (hr.2.1 i hi) (fun m2 f2 l2 g2 => ?_)
      have p2 := hp m2 (hr.fc hw hi f2 l2 g2) (fun k hk => f2 k (by omega) (by omega))
      have es : (nI (sz s i) - 1).toInt = (sz s i : Int) - 1 := by
        rw [show (1 : Int32) = nI 1 from rfl]; exact pk_sub_toInt (by omega) (by omega)
      simp only [Option.some.injEq, Sum.inl.injEq, Sum.inr.injEq, Prod.mk.injEq, and_assoc, exists_eq_left', exists_eq_left, exists_and_left, exists_and_right, exists_eq', exists_eq, forall_eq, forall_eq', true_and, and_true, exists_const, Hm_1, gF_co_4 _ _ h12, l2.1, sp_Br_within, t0, es, inI_d, bI_0, gF_co_0 _ _ h12, gA_vo _ _ h12]
      cases e3 : inI k 0 ((sz s i : Int) - 1)
      · rw [e3] at p2; exact ⟨fun _ => p2, fun q => absurd rfl q⟩
      · rw [e3] at p2
        refine ⟨fun q => (by cases q), fun _ => ?_⟩
        replace p2 : Post (nI (vv s i (ix k) y)) (Hm m2 l) := p2
        unfold inI at e3
        simp only [decide_eq_true_eq] at e3
        obtain ⟨ek, hk⟩ := ix_of (n := sz s i) e3.1 (by omega) (by omega)
        generalize ix k = j at ek hk p2
        subst ek
        simp only [vp_in_nI (show j < 112 by omega) (show 112 < 2 ^ 31 by decide), nI_clamp (show j < 2 ^ 31 by omega), l2.2 j hk, true_and, sp_Br_pitchOf _ (Vx_v hw hi hk).1 (show y < 3 by omega)]
        exact p2
theorem SF.cf {mu m : Nat → Nat → Int32} (h : SF mu m) : CF mu m := fun k hk => h k (by omega) (by omega) (by omega)
theorem fail_m1 (s : SG) (hw : WF s) : iI (failT s (sn s)) = -1 ↔ failT s (sn s) < 0 := by
  have h := failT_rg s (sn s)
  have hn := hw.n
  have : iI (failT s (sn s)) = iI (-1) ↔ failT s (sn s) = -1 := iI_eq (by omega) (by omega) (by omega) (by omega)
  rw [show (-1 : Int32) = iI (-1) from rfl, this]
  omega
theorem cs_solve {Post : Int32 → MH → Prop} {s : SG} {mu : Nat → Nat → Int32} {l : Nat → Int64} (hr : RC s mu) (hw : WF s) (hp : ∀ mu2, RC s mu2 → CF mu mu2 → Post (o_solve s) (Hm mu2 l)) : wp_Br_solve Post 0 (Hm mu l) := by
  have hn := hw.n
  have p0 := hp mu hr (CF.rf mu)
  unfold o_solve at p0 hp
  unfold wp_Br_solve
  simp only [Option.some.injEq, Sum.inl.injEq, Sum.inr.injEq, Prod.mk.injEq, and_assoc, exists_eq_left', exists_eq_left, exists_and_left, exists_and_right, exists_eq', exists_eq, forall_eq, forall_eq', true_and, and_true, exists_const, Hm_1, gF_Br_4, hr.1.1.1, n_eq0 (show sn s < 2 ^ 31 by omega), gF_Br_0, gC_Se]
  refine ⟨fun e => ?_, fun e => by rw [if_pos e] at p0; exact p0⟩
  rw [if_neg e] at hp
  refine sp_Se_settle hw (by omega) hr (fun m2 s2 r2 t2 => ?_)
  have p2 := hp m2 r2 s2.cf
  simp only [Option.some.injEq, Sum.inl.injEq, Sum.inr.injEq, Prod.mk.injEq, and_assoc, exists_eq_left', exists_eq_left, exists_and_left, exists_and_right, exists_eq', exists_eq, forall_eq, forall_eq', true_and, and_true, exists_const, Hm_1, gF_Br_0, gF_Se_5, gF_Se_6, t2.1, fail_m1 s hw]
  refine ⟨fun z => ?_, fun z => ?_⟩
  · rw [if_neg z] at p2
    rw [show (-10 : Int32) = iI (-10) from rfl, iI_sub]; exact p2
  · rw [if_pos z] at p2
    rw [(t2.2.2 z).1]; exact p2
theorem cs_many {Post : Int32 → MH → Prop} {s : SG} {mu : Nat → Nat → Int32} {l : Nat → Int64} (hr : RC s mu) (hw : WF s) (hp : ∀ mu2, RC s mu2 → CF mu mu2 → Post (o_many s) (Hm mu2 l)) : wp_Br_many Post 0 (Hm mu l) := by
  have hn := hw.n
  have p0 := hp mu hr (CF.rf mu)
  unfold o_many at p0 hp
  unfold wp_Br_many
  simp only [Option.some.injEq, Sum.inl.injEq, Sum.inr.injEq, Prod.mk.injEq, and_assoc, exists_eq_left', exists_eq_left, exists_and_left, exists_and_right, exists_eq', exists_eq, forall_eq, forall_eq', true_and, and_true, exists_const, Hm_1, gF_Br_4, hr.1.1.1, n_eq0 (show sn s < 2 ^ 31 by omega), gF_Br_0, gC_Se]
  refine ⟨fun e => ?_, fun e => by rw [if_pos e] at p0; exact p0⟩
  rw [if_neg e] at hp
  refine sp_Se_settle hw (by omega) hr (fun m2 s2 r2 t2 => ?_)
  have p2 := hp m2 r2 s2.cf
  simp only [Option.some.injEq, Sum.inl.injEq, Sum.inr.injEq, Prod.mk.injEq, and_assoc, exists_eq_left', exists_eq_left, exists_and_left, exists_and_right, exists_eq', exists_eq, forall_eq, forall_eq', true_and, and_true, exists_const, Hm_1, gF_Br_0, gF_Se_7, t2.2.1]
  exact p2
theorem cs_note {Post : Int32 → MH → Prop} {s : SG} {mu : Nat → Nat → Int32} {l : Nat → Int64} (hr : RC s mu) (hw : WF s) (x v : Int32) (hp : ∀ mu2, RC s mu2 → CF mu mu2 → Post (o_note s x v) (Hm mu2 l)) : wp_Br_note Post 0 x v (Hm mu l) := by
  have hn := hw.n
  have p0 := hp mu hr (CF.rf mu)
  unfold o_note at p0 hp
  unfold wp_Br_note
  simp only [gC_Br, true_and, sp_Br_hasChord _ hr.1.1 hw, sp_Br_isVoice, inI_d, bI_0]
  cases e1 : hasC s x
  · rw [e1] at p0; exact ⟨fun _ => p0, fun q => absurd rfl q⟩
  · refine ⟨fun q => (by cases q), fun _ => ?_⟩
    cases e2 : inI v 0 2
    · rw [e1, e2] at p0; exact ⟨fun q => absurd rfl q, fun _ => p0⟩
    · refine ⟨fun _ => ?_, fun q => (by cases q)⟩
      rw [e1, e2] at hp
      obtain ⟨ex, hi⟩ := hasC_ix hw e1
      obtain ⟨ev, h2⟩ := inI_ix (b := 2) (by decide) e2
      replace hp : ∀ mu2, RC s mu2 → CF mu mu2 → Post (if failT s (sn s) < 0 then nI (vv s (ix x) (ch s (ix x)) (ix v)) else -2) (Hm mu2 l) := hp
      clear p0
      generalize ix x = i at ex hi hp
      generalize ix v = y at ev h2 hp
      subst ex ev
      have h12 : i < 12 := by omega
      simp only [Option.some.injEq, Sum.inl.injEq, Sum.inr.injEq, Prod.mk.injEq, and_assoc, exists_eq_left', exists_eq_left, exists_and_left, exists_and_right, exists_eq', exists_eq, forall_eq, forall_eq', true_and, and_true, exists_const, Hm_1, gF_Br_0, gF_Br_4, hr.1.1.1, gC_Se]
      refine sp_Se_settle hw (by omega) hr (fun m2 s2 r2 t2 => ?_)
      have p2 := hp m2 r2 s2.cf
      simp only [Option.some.injEq, Sum.inl.injEq, Sum.inr.injEq, Prod.mk.injEq, and_assoc, exists_eq_left', exists_eq_left, exists_and_left, exists_and_right, exists_eq', exists_eq, forall_eq, forall_eq', true_and, and_true, exists_const, Hm_1, gF_Br_0, gF_Se_5, gF_Se_4, t2.1, fail_m1 s hw, gA_be, vp_in_nI h12 (show 12 < 2 ^ 31 by decide), nI_clamp (show i < 2 ^ 31 by omega)]
      refine ⟨fun z => by rw [if_neg z] at p2; exact p2, fun z => ?_⟩
      rw [if_pos z] at p2
      have G := Gd_a hw (by omega) z i hi
      rw [(t2.2.2 z).2 i hi, sp_Br_pitchOf _ (Vx_v hw hi G.1).1 (show y < 3 by omega)]
      exact p2
theorem cs_fault {Post : Int32 → MH → Prop} {s : SG} {mu : Nat → Nat → Int32} {l : Nat → Int64} (hr : RC s mu) (hw : WF s) (x : Int32) (hp : ∀ mu2, RC s mu2 → CF mu mu2 → Post (o_fault s x) (Hm mu2 l)) : wp_Br_fault Post 0 x (Hm mu l) := by
  have hn := hw.n
  have p0 := hp mu hr (CF.rf mu)
  unfold o_fault at p0 hp
  unfold wp_Br_fault
  simp only [gC_Br, true_and, sp_Br_hasChord _ hr.1.1 hw, bI_0]
  cases e1 : hasC s x
  · rw [e1] at p0; exact ⟨fun q => absurd rfl q, fun _ => p0⟩
  · rw [e1] at hp p0
    refine ⟨fun _ => ?_, fun q => (by cases q)⟩
    obtain ⟨ex, hi⟩ := hasC_ix hw e1
    replace hp : ∀ mu2, RC s mu2 → CF mu mu2 → Post (if (ssg s (ix x)).isSome then nI (faultN s (ix x)) else -2) (Hm mu2 l) := hp
    clear p0
    generalize ix x = i at ex hi hp
    subst ex
    have h12 : i < 12 := by omega
    simp only [Option.some.injEq, Sum.inl.injEq, Sum.inr.injEq, Prod.mk.injEq, and_assoc, exists_eq_left', exists_eq_left, exists_and_left, exists_and_right, exists_eq', exists_eq, forall_eq, forall_eq', true_and, and_true, exists_const, Hm_1, gF_Br_1, gR_CA, vp_in_nI h12 (show 12 < 2 ^ 31 by decide), nI_clamp (show i < 2 ^ 31 by omega), if_pos h12, gF_ch_6 _ _ h12, (hr.1.2 i hi).2.2.1, hnd_m hw hi]
    cases es : ssg s i with
    | none =>
      rw [es] at hp
      exact ⟨fun q => absurd rfl q, fun _ => hp mu hr (CF.rf mu)⟩
    | some b =>
      rw [es] at hp
      refine ⟨fun _ => sp_Br_faultAt hr.1 hw hi es (fun m2 f2 => hp m2 (hr.mf hw f2) f2.cf), fun q => (by cases q)⟩
