theorem faultN_le (s : SG) (i : Nat) : faultN s i ≤ 11 := by
  unfold faultN
  cases ssg s i with
  | none => show 0 ≤ 11; omega
  | some t =>
    have q1 := alone_le s i t.1 t.2.1 t.2.2
    have q2 := pair0_le s (xv s i t)
    have q3 := pairR_le s i (xv s i t) (xt s (i - 1) (ssg s (i - 1)))
    show (if _ then _ else _) ≤ 11
    repeat' split
    all_goals omega
theorem cs_sung {Post : Int32 → MH → Prop} {s : SG} {mu : Nat → Nat → Int32} {l : Nat → Int64} (hr : RC s mu) (hw : WF s) (hp : ∀ mu2, RC s mu2 → CF mu mu2 → Post (o_sung s) (Hm mu2 l)) : wp_Br_sung Post 0 (Hm mu l) := by
  have hn := hw.n
  have hM : IsM 109 := Or.inr rfl
  have p0 := hp mu hr (CF.rf mu)
  unfold o_sung at p0 hp
  unfold wp_Br_sung
  simp only [Option.some.injEq, Sum.inl.injEq, Sum.inr.injEq, Prod.mk.injEq, and_assoc, exists_eq_left', exists_eq_left, exists_and_left, exists_and_right, exists_eq', exists_eq, forall_eq, forall_eq', true_and, and_true, exists_const, Hm_1, gF_Br_4, hr.1.1.1, n_eq0 (show sn s < 2 ^ 31 by omega)]
  refine ⟨fun e => ?_, fun e => by rw [if_pos e] at p0; exact p0⟩
  rw [if_neg e] at hp
  have key : ∀ (j i c : Nat) (m : Nat → Nat → Int32), i + j = sn s → sgC s i = some c → MF 109 mu m → wn_Br_sung_14 Post (j + 1) 0 (nI c) (nI i) (Hm m l) := by
    intro j
    induction j with
    | zero =>
      intro i c m hi hc hm
      obtain rfl : i = sn s := by omega
      have hrm := hr.mf hw hm
      show wb_Br_sung_14 _ _ _ _ _ _
      unfold wb_Br_sung_14
      simp only [Option.some.injEq, Sum.inl.injEq, Sum.inr.injEq, Prod.mk.injEq, and_assoc, exists_eq_left', exists_eq_left, exists_and_left, exists_and_right, exists_eq', exists_eq, forall_eq, forall_eq', true_and, and_true, exists_const, Hm_1, gF_Br_4, hrm.1.1.1, nI_leI (show sn s < 2 ^ 31 by omega) (show sn s < 2 ^ 31 by omega)]
      refine ⟨fun _ => ?_, fun q => absurd (Nat.le_refl _) q⟩
      have := hp m hrm hm.cf
      rw [hc] at this
      exact this
    | succ j ih =>
      intro i c m hi hc hm
      have hin : i < sn s := by omega
      have h12 : i < 12 := by omega
      have hrm := hr.mf hw hm
      have bad : sgC s (i + 1) = none → ∀ m2, MF 109 mu m2 → Post (-2) (Hm m2 l) := by
        intro e m2 f2
        have := hp m2 (hr.mf hw f2) f2.cf
        rw [sgC_none e (sn s) (by omega)] at this
        exact this
      show wb_Br_sung_14 _ _ _ _ _ _
      unfold wb_Br_sung_14 wp_Br_sung_72
      simp only [Option.some.injEq, Sum.inl.injEq, Sum.inr.injEq, Prod.mk.injEq, and_assoc, exists_eq_left', exists_eq_left, exists_and_left, exists_and_right, exists_eq', exists_eq, forall_eq, forall_eq', true_and, and_true, exists_const, Hm_1, gF_Br_4, hrm.1.1.1, nI_leI (show sn s < 2 ^ 31 by omega) (show i < 2 ^ 31 by omega), gF_Br_1, gR_CA, vp_in_nI h12 (show 12 < 2 ^ 31 by decide), nI_clamp (show i < 2 ^ 31 by omega), if_pos h12, gF_ch_6 _ _ h12, (hrm.1.2 i hin).2.2.1, hnd_m hw hin, gC_Br]
      refine ⟨fun q => absurd q (by omega), fun _ => ⟨fun es => bad (by unfold sgC; rw [hc, es]) m hm, fun es => ?_⟩⟩
      obtain ⟨b, es⟩ : ∃ b, ssg s i = some b := by
        cases q : ssg s i with
        | none => exact absurd q es
        | some b => exact ⟨b, rfl⟩
      refine sp_Br_faultAt hrm.1 hw hin es (fun m2 f2 => ?_)
      have fl := faultN_le s i
      have hm2 := hm.tr f2
      have hr2 := hr.mf hw hm2
      rw [n_eq0 (show faultN s i < 2 ^ 31 by omega), n_eq0 (show i < 2 ^ 31 by omega)]
      refine ⟨fun ef => ⟨fun e0 => ?_, fun e0 => ?_⟩, fun ef => bad (by unfold sgC; rw [hc, es]; simp only; rw [if_neg ef]) m2 hm2⟩
      · have hs1 := sgC_some hc (by omega)
        obtain ⟨a, ea⟩ : ∃ a, ssg s (i - 1) = some a := by
          cases q : ssg s (i - 1) with
          | none => rw [q] at hs1; cases hs1
          | some a => exact ⟨a, rfl⟩
        have hc2 : sgC s (i + 1) = some (c + csM (xv s i b) (xv s (i - 1) a)) := by
          unfold sgC; rw [hc, es]; simp only; rw [if_pos ef, if_neg e0, ea]; rfl
        simp only [gC_Br, true_and]
        refine sp_Br_moveTo hr2.1 hw hin (by omega) ea es (fun m3 f3 l3 a3 => ⟨gC_Mv hM m3 l, ?_⟩)
        refine sp_Mv_length hM a3 (Vx_s hw hin es).1 (Vx_s hw (by omega) ea).1 ?_
        rw [nI_add, nI_1]
        exact ih (i + 1) _ m3 (by omega) hc2 (hm2.tr f3)
      · subst e0
        have hc2 : sgC s (0 + 1) = some (c + csH s (xv s 0 b)) := by
          unfold sgC; rw [hc, es]; simp only; rw [if_pos ef, if_pos trivial]
        simp only [Option.some.injEq, Sum.inl.injEq, Sum.inr.injEq, Prod.mk.injEq, and_assoc, exists_eq_left', exists_eq_left, exists_and_left, exists_and_right, exists_eq', exists_eq, forall_eq, forall_eq', true_and, and_true, exists_const, Hm_1, gF_Br_2, gC_Ru, hnd_s es]
        refine sp_Ru_farFromHome hr2.1.1 hw (Vx_s hw hin es).1 ?_
        rw [nI_add, nI_1]
        exact ih (0 + 1) _ m2 (by omega) hc2 hm2
  exact ⟨_, key (sn s) 0 0 mu (by omega) rfl (fun _ _ => rfl)⟩
theorem sumTo_ad (f : Nat → Nat) (a : Nat) : ∀ b, sumTo f (a + b) = sumTo f a + sumTo (fun k => f (a + k)) b
  | 0 => rfl
  | b + 1 => by
    rw [show a + (b + 1) = (a + b) + 1 by omega, sumTo_s, sumTo_s, sumTo_ad f a b]; omega
theorem cT_s {s : SG} (hw : WF s) {i : Nat} (hi : i < sn s) : cT s (10 * (i + 1)) = cT s (10 * i) + cnt8 (tl s i) := by
  have h := hw.2.2.2.2.1 i hi
  unfold cT
  rw [show 10 * (i + 1) = 10 * i + 10 by omega, sumTo_ad]
  congr 1
  have e : ∀ k, k < 10 → (if 0 < std s ((10 * i + k) / 10) ((10 * i + k) % 10) then 1 else 0) = if 0 < std s i k then 1 else 0 := by
    intro k hk
    rw [show (10 * i + k) / 10 = i by omega, show (10 * i + k) % 10 = k by omega]
  rw [sumTo_e e]
  unfold cnt8 tl
  simp only [sumTo, h.2.1, h.2.2.1, Nat.zero_add, decide_eq_true_eq, Nat.lt_irrefl, if_false]
theorem cS_s {s : SG} {i : Nat} : cS s (3 * (i + 1)) = cS s (3 * i) + if (ssg s i).isSome = true then 1 else 0 := by
  unfold cS
  rw [show 3 * (i + 1) = 3 * i + 3 by omega, sumTo_ad]
  congr 1
  have z0 : (3 * i + 0) % 3 = 0 := by omega
  have z1 : (3 * i + 1) % 3 = 1 := by omega
  have z2 : (3 * i + 2) % 3 = 2 := by omega
  have y0 : (3 * i + 0) / 3 = i := by omega
  simp [sumTo, z1, z2]
theorem cG_s {s : SG} {i : Nat} : cG s (3 * (i + 1)) = cG s (3 * i) + sumTo (fun k => if 0 ≤ sgv s i k then 1 else 0) 3 := by
  unfold cG
  rw [show 3 * (i + 1) = 3 * i + 3 by omega, sumTo_ad]
  congr 1
  refine sumTo_e (fun k hk => ?_)
  rw [show (3 * i + k) / 3 = i by omega, show (3 * i + k) % 3 = k by omega]
theorem sp_Br_figuresTold {Post : Int32 → MH → Prop} {s : SG} {mu : Nat → Nat → Int32} {l : Nat → Int64} (hb : CB s mu) (hw : WF s) (hp : Post (nI (cT s (10 * sn s))) (Hm mu l)) : wp_Br_figuresTold Post 0 (Hm mu l) := by
  have hn := hw.n
  have key : ∀ (j i : Nat), i + j = sn s → wn_Br_figuresTold_4 Post (j + 1) 0 (nI (cT s (10 * i))) (nI i) (Hm mu l) := by
    intro j
    induction j with
    | zero =>
      intro i hi
      obtain rfl : i = sn s := by omega
      show wb_Br_figuresTold_4 _ _ _ _ _ _
      unfold wb_Br_figuresTold_4
      simp only [Option.some.injEq, Sum.inl.injEq, Sum.inr.injEq, Prod.mk.injEq, and_assoc, exists_eq_left', exists_eq_left, exists_and_left, exists_and_right, exists_eq', exists_eq, forall_eq, forall_eq', true_and, and_true, exists_const, Hm_1, gF_Br_4, hb.1.1, nI_leI (show sn s < 2 ^ 31 by omega) (show sn s < 2 ^ 31 by omega)]
      exact ⟨fun _ => hp, fun q => absurd (Nat.le_refl _) q⟩
    | succ j ih =>
      intro i hi
      have h12 : i < 12 := by omega
      show wb_Br_figuresTold_4 _ _ _ _ _ _
      unfold wb_Br_figuresTold_4
      simp only [Option.some.injEq, Sum.inl.injEq, Sum.inr.injEq, Prod.mk.injEq, and_assoc, exists_eq_left', exists_eq_left, exists_and_left, exists_and_right, exists_eq', exists_eq, forall_eq, forall_eq', true_and, and_true, exists_const, Hm_1, gF_Br_4, hb.1.1, nI_leI (show sn s < 2 ^ 31 by omega) (show i < 2 ^ 31 by omega), gF_Br_1, gR_CA, vp_in_nI h12 (show 12 < 2 ^ 31 by decide), nI_clamp (show i < 2 ^ 31 by omega), if_pos h12, gF_ch_2 _ _ h12, (hb.2 i (show i < sn s by omega)).1.2.2.1, sp_In_bitCount, nI_add, nI_1, ← cT_s hw (show i < sn s by omega)]
      exact ⟨fun q => absurd q (by omega), fun _ => ih (i + 1) (by omega)⟩
  exact ⟨_, key (sn s) 0 (by omega)⟩
theorem sp_Br_chordsSung {Post : Int32 → MH → Prop} {s : SG} {mu : Nat → Nat → Int32} {l : Nat → Int64} (hb : CB s mu) (hw : WF s) (hp : Post (nI (cS s (3 * sn s))) (Hm mu l)) : wp_Br_chordsSung Post 0 (Hm mu l) := by
  have hn := hw.n
  have key : ∀ (j i : Nat), i + j = sn s → wn_Br_chordsSung_4 Post (j + 1) 0 (nI (cS s (3 * i))) (nI i) (Hm mu l) := by
    intro j
    induction j with
    | zero =>
      intro i hi
      obtain rfl : i = sn s := by omega
      show wb_Br_chordsSung_4 _ _ _ _ _ _
      unfold wb_Br_chordsSung_4
      simp only [Option.some.injEq, Sum.inl.injEq, Sum.inr.injEq, Prod.mk.injEq, and_assoc, exists_eq_left', exists_eq_left, exists_and_left, exists_and_right, exists_eq', exists_eq, forall_eq, forall_eq', true_and, and_true, exists_const, Hm_1, gF_Br_4, hb.1.1, nI_leI (show sn s < 2 ^ 31 by omega) (show sn s < 2 ^ 31 by omega)]
      exact ⟨fun _ => hp, fun q => absurd (Nat.le_refl _) q⟩
    | succ j ih =>
      intro i hi
      have h12 : i < 12 := by omega
      have hin : i < sn s := by omega
      have I := ih (i + 1) (by omega)
      rw [cS_s] at I
      show wb_Br_chordsSung_4 _ _ _ _ _ _
      unfold wb_Br_chordsSung_4 wp_Br_chordsSung_28
      simp only [Option.some.injEq, Sum.inl.injEq, Sum.inr.injEq, Prod.mk.injEq, and_assoc, exists_eq_left', exists_eq_left, exists_and_left, exists_and_right, exists_eq', exists_eq, forall_eq, forall_eq', true_and, and_true, exists_const, Hm_1, gF_Br_4, hb.1.1, nI_leI (show sn s < 2 ^ 31 by omega) (show i < 2 ^ 31 by omega), gF_Br_1, gR_CA, vp_in_nI h12 (show 12 < 2 ^ 31 by decide), nI_clamp (show i < 2 ^ 31 by omega), if_pos h12, gF_ch_6 _ _ h12, (hb.2 i hin).2.2.1, hnd_m hw hin, nI_1]
      refine ⟨fun q => absurd q (by omega), fun _ => ⟨fun es => ?_, fun es => ?_⟩⟩
      · rw [es] at I; exact I
      · cases q : ssg s i with
        | none => exact absurd q es
        | some b => rw [q] at I; exact I
  exact ⟨_, key (sn s) 0 (by omega)⟩
theorem sp_Br_pitchesGiven {Post : Int32 → MH → Prop} {s : SG} {mu : Nat → Nat → Int32} {l : Nat → Int64} (hb : CB s mu) (hw : WF s) (hp : Post (nI (cG s (3 * sn s))) (Hm mu l)) : wp_Br_pitchesGiven Post 0 (Hm mu l) := by
  have hn := hw.n
  have step : ∀ (K4 : Nat → Int32 → Int32 → MH → Prop) (K : Nat → Int32 → Int32 → Int32 → MH → Prop) (i c v : Nat), i < sn s → v < 3 → K 0 (nI (c + if 0 ≤ sgv s i v then 1 else 0)) (nI i) (nI (v + 1)) (Hm mu l) → wb_Br_pitchesGiven_14 K4 K Post 0 (nI c) (nI i) (nI v) (Hm mu l) := by
    intro K4 K i c v hi hv hK
    have h12 : i < 12 := by omega
    have hg := hw.2.2.2.2.2.2.1 i hi v hv
    have m1 : iI (sgv s i v) = -1 ↔ sgv s i v = -1 := iI_eq (b := -1) (by omega) (by omega) (by omega) (by omega)
    unfold wb_Br_pitchesGiven_14 wp_Br_pitchesGiven_37
    simp only [Option.some.injEq, Sum.inl.injEq, Sum.inr.injEq, Prod.mk.injEq, and_assoc, exists_eq_left', exists_eq_left, exists_and_left, exists_and_right, exists_eq', exists_eq, forall_eq, forall_eq', true_and, and_true, exists_const, Hm_1, gF_Br_1, gR_CA, vp_in_nI h12 (show 12 < 2 ^ 31 by decide), nI_clamp (show i < 2 ^ 31 by omega), if_pos h12, gF_ch_5 _ _ h12, gA_fx _ _ h12, vp_in_nI hv (show 3 < 2 ^ 31 by decide), nI_clamp (show v < 2 ^ 31 by omega), (hb.2 i hi).2.2.2 v hv, m1, nI_1]
    refine ⟨fun e => absurd e (nI_ge hv (by decide)), fun _ => ⟨fun e => ?_, fun e => ?_⟩⟩
    · rw [if_neg (by omega)] at hK; exact hK
    · rw [if_pos (by omega)] at hK; exact hK
  have key : ∀ (j i : Nat), i + j = sn s → wn_Br_pitchesGiven_4 Post (j + 1) 0 (nI (cG s (3 * i))) (nI i) (Hm mu l) := by
    intro j
    induction j with
    | zero =>
      intro i hi
      obtain rfl : i = sn s := by omega
      show wb_Br_pitchesGiven_4 _ _ _ _ _ _
      unfold wb_Br_pitchesGiven_4
      simp only [Option.some.injEq, Sum.inl.injEq, Sum.inr.injEq, Prod.mk.injEq, and_assoc, exists_eq_left', exists_eq_left, exists_and_left, exists_and_right, exists_eq', exists_eq, forall_eq, forall_eq', true_and, and_true, exists_const, Hm_1, gF_Br_4, hb.1.1, nI_leI (show sn s < 2 ^ 31 by omega) (show sn s < 2 ^ 31 by omega)]
      exact ⟨fun _ => hp, fun q => absurd (Nat.le_refl _) q⟩
    | succ j ih =>
      intro i hi
      have hin : i < sn s := by omega
      have I := ih (i + 1) (by omega)
      rw [cG_s] at I
      show wb_Br_pitchesGiven_4 _ _ _ _ _ _
      unfold wb_Br_pitchesGiven_4
      simp only [Option.some.injEq, Sum.inl.injEq, Sum.inr.injEq, Prod.mk.injEq, and_assoc, exists_eq_left', exists_eq_left, exists_and_left, exists_and_right, exists_eq', exists_eq, forall_eq, forall_eq', true_and, and_true, exists_const, Hm_1, gF_Br_4, hb.1.1, nI_leI (show sn s < 2 ^ 31 by omega) (show i < 2 ^ 31 by omega)]
      refine ⟨fun q => absurd q (by omega), fun _ => ⟨4, step _ _ i _ 0 hin (by decide) (step _ _ i _ 1 hin (by decide) (step _ _ i _ 2 hin (by decide) ?_))⟩⟩
      refine ⟨fun _ => ?_, fun q => absurd (by decide) q⟩
      rw [nI_1]
      simp only [sumTo, Nat.zero_add, ← Nat.add_assoc] at I
      exact I
  exact ⟨_, key (sn s) 0 (by omega)⟩
set_option maxHeartbeats 1000000 in
theorem cs_count {Post : Int32 → MH → Prop} {s : SG} {mu : Nat → Nat → Int32} {l : Nat → Int64} (hr : RC s mu) (hw : WF s) (x : Int32) (hp : ∀ mu2, RC s mu2 → CF mu mu2 → Post (o_count s x) (Hm mu2 l)) : wp_Br_count Post 0 x (Hm mu l) := by
  have hn := hw.n
  have p0 := hp mu hr (CF.rf mu)
  have G := hr.1.1
  unfold o_count at p0
  unfold wp_Br_count
  simp only [sp_Br_within, t6, t8, t9, t11, t12, t14, inI_d, bI_0]
  have ni : ∀ a b : Int, inI x a b = false ↔ ¬ (a ≤ x.toInt ∧ x.toInt ≤ b) := fun a b => by unfold inI; exact decide_eq_false_iff_not
  cases e : inI x 0 14
  · have z := (ni 0 14).mp e
    have c : ∀ k : Nat, k ≤ 14 → ¬ x = nI k := fun k hk q => by rw [q, nI_t (by omega)] at z; omega
    rw [e] at p0
    rw [ni, ni, ni]
    refine ⟨fun _ => ⟨fun _ => ⟨fun _ => ⟨fun q => absurd q (c 0 (by decide)), fun q => absurd q (c 1 (by decide)), fun q => absurd q (c 2 (by decide)), fun q => absurd q (c 3 (by decide)), fun q => absurd q (c 4 (by decide)), fun q => absurd q (c 5 (by decide)), fun _ _ _ _ _ _ => p0⟩, fun q => absurd (by omega) q⟩, fun q => absurd (by omega) q⟩, fun q => absurd (by omega) q⟩
  · obtain ⟨ex, h14⟩ := inI_ix (b := 14) (by decide) e
    rw [e] at p0
    rw [ni, ni, ni]
    replace p0 : Post (if ix x = 0 then nI (sn s) else if ix x = 1 then nI (cT s (10 * sn s)) else if ix x = 2 then iI (sF s + 7) else if ix x = 3 then nI (sp s) else if ix x = 4 then nI (cS s (3 * sn s)) else if ix x = 5 then nI (cG s (3 * sn s)) else if ix x < 9 then nI (slo s (ix x - 6)) else if ix x < 12 then nI (shi s (ix x - 9)) else nI (sho s (ix x - 12))) (Hm mu l) := p0
    have xt : x.toInt = ix x := (congrArg Int32.toInt ex).trans (nI_t (by omega))
    rw [xt]
    have sub : ∀ a : Nat, a ≤ ix x → x - nI a = nI (ix x - a) := fun a ha => (congrArg (· - nI a) ex).trans (pk_sub ha)
    have c : ∀ k : Nat, k ≤ 14 → (x = nI k ↔ ix x = k) := fun k hk => by
      rw [show (x = nI k) = (nI (ix x) = nI k) by rw [← ex]]
      exact nI_eq (by omega) (by omega)
    refine ⟨fun q6 => ⟨fun q9 => ⟨fun q12 => ⟨fun q => ?_, fun q => ?_, fun q => ?_, fun q => ?_, fun q => ?_, fun q => ?_, fun a0 a1 a2 a3 a4 a5 => ?_⟩, fun q => ?_⟩, fun q => ?_⟩, fun q => ?_⟩
    · have q := (c 0 (by decide)).mp q
      rw [if_pos q] at p0
      simp only [Option.some.injEq, Sum.inl.injEq, Sum.inr.injEq, Prod.mk.injEq, and_assoc, exists_eq_left', exists_eq_left, exists_and_left, exists_and_right, exists_eq', exists_eq, forall_eq, forall_eq', true_and, and_true, exists_const, Hm_1, gF_Br_4, G.1]; exact p0
    · have q := (c 1 (by decide)).mp q
      rw [if_neg (by omega), if_pos q] at p0
      exact ⟨gC_Br mu l, sp_Br_figuresTold hr.1 hw p0⟩
    · have q := (c 2 (by decide)).mp q
      rw [if_neg (by omega), if_neg (by omega), if_pos q] at p0
      simp only [Option.some.injEq, Sum.inl.injEq, Sum.inr.injEq, Prod.mk.injEq, and_assoc, exists_eq_left', exists_eq_left, exists_and_left, exists_and_right, exists_eq', exists_eq, forall_eq, forall_eq', true_and, and_true, exists_const, Hm_1, gF_Br_2, gF_Ru_4, G.2.2.1]
      rw [show (7 : Int32) = iI 7 from rfl, iI_add]; exact p0
    · have q := (c 3 (by decide)).mp q
      rw [if_neg (by omega), if_neg (by omega), if_neg (by omega), if_pos q] at p0
      simp only [Option.some.injEq, Sum.inl.injEq, Sum.inr.injEq, Prod.mk.injEq, and_assoc, exists_eq_left', exists_eq_left, exists_and_left, exists_and_right, exists_eq', exists_eq, forall_eq, forall_eq', true_and, and_true, exists_const, Hm_1, gF_Br_2, gF_Ru_3, G.2.1]; exact p0
    · have q := (c 4 (by decide)).mp q
      rw [if_neg (by omega), if_neg (by omega), if_neg (by omega), if_neg (by omega), if_pos q] at p0
      exact ⟨gC_Br mu l, sp_Br_chordsSung hr.1 hw p0⟩
    · have q := (c 5 (by decide)).mp q
      rw [if_neg (by omega), if_neg (by omega), if_neg (by omega), if_neg (by omega), if_neg (by omega), if_pos q] at p0
      exact ⟨gC_Br mu l, sp_Br_pitchesGiven hr.1 hw p0⟩
    · have b0 := mt (c 0 (by decide)).mpr a0
      have b1 := mt (c 1 (by decide)).mpr a1
      have b2 := mt (c 2 (by decide)).mpr a2
      have b3 := mt (c 3 (by decide)).mpr a3
      have b4 := mt (c 4 (by decide)).mpr a4
      have b5 := mt (c 5 (by decide)).mpr a5
      omega
    · rw [if_neg (by omega), if_neg (by omega), if_neg (by omega), if_neg (by omega), if_neg (by omega), if_neg (by omega), if_neg (by omega), if_neg (by omega)] at p0
      have hv : ix x - 12 < 3 := by omega
      simp only [Option.some.injEq, Sum.inl.injEq, Sum.inr.injEq, Prod.mk.injEq, and_assoc, exists_eq_left', exists_eq_left, exists_and_left, exists_and_right, exists_eq', exists_eq, forall_eq, forall_eq', true_and, and_true, exists_const, Hm_1, gF_Br_2, gF_Ru_2, gA_ho, show x - 12 = nI (ix x - 12) from sub 12 (by omega), vp_in_nI hv (show 3 < 2 ^ 31 by decide), nI_clamp (show ix x - 12 < 2 ^ 31 by omega), (G.2.2.2 _ hv).2.2]
      exact p0
    · rw [if_neg (by omega), if_neg (by omega), if_neg (by omega), if_neg (by omega), if_neg (by omega), if_neg (by omega), if_neg (by omega), if_pos (by omega)] at p0
      have hv : ix x - 9 < 3 := by omega
      simp only [Option.some.injEq, Sum.inl.injEq, Sum.inr.injEq, Prod.mk.injEq, and_assoc, exists_eq_left', exists_eq_left, exists_and_left, exists_and_right, exists_eq', exists_eq, forall_eq, forall_eq', true_and, and_true, exists_const, Hm_1, gF_Br_2, gF_Ru_1, gA_hi, show x - 9 = nI (ix x - 9) from sub 9 (by omega), vp_in_nI hv (show 3 < 2 ^ 31 by decide), nI_clamp (show ix x - 9 < 2 ^ 31 by omega), (G.2.2.2 _ hv).2.1]
      exact p0
    · rw [if_neg (by omega), if_neg (by omega), if_neg (by omega), if_neg (by omega), if_neg (by omega), if_neg (by omega), if_pos (by omega)] at p0
      have hv : ix x - 6 < 3 := by omega
      simp only [Option.some.injEq, Sum.inl.injEq, Sum.inr.injEq, Prod.mk.injEq, and_assoc, exists_eq_left', exists_eq_left, exists_and_left, exists_and_right, exists_eq', exists_eq, forall_eq, forall_eq', true_and, and_true, exists_const, Hm_1, gF_Br_2, gF_Ru_0, gA_lo, show x - 6 = nI (ix x - 6) from sub 6 (by omega), vp_in_nI hv (show 3 < 2 ^ 31 by decide), nI_clamp (show ix x - 6 < 2 ^ 31 by omega), (G.2.2.2 _ hv).1]
      exact p0
