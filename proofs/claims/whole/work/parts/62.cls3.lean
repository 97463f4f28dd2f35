def CC (t : SG) (i : Nat) (mu : Nat → Nat → Int32) : Prop := CK t i mu ∧ CT t i mu ∧ CX t i mu
def CG (t : SG) (mu : Nat → Nat → Int32) : Prop := mu 0 4 = nI (sn t) ∧ mu 3 3 = nI (sp t) ∧ mu 3 4 = iI (sF t) ∧ ∀ v, v < 3 → mu 4 v = nI (slo t v) ∧ mu 5 v = nI (shi t v) ∧ mu 6 v = nI (sho t v)
def CB (t : SG) (mu : Nat → Nat → Int32) : Prop := CG t mu ∧ ∀ i, i < sn t → CC t i mu
theorem abs_d {a b : Nat} (ha : a ≤ 127) (hb : b ≤ 127) : (if 0 ≤ nI a - nI b then nI a - nI b else 0 - (nI a - nI b)) = nI (dis a b) := by
  have c : iI 0 ≤ iI ((a : Int) - b) ↔ 0 ≤ (a : Int) - b := iI_le (by omega) (by omega) (by omega) (by omega)
  rw [iI_n a, iI_n b, iI_sub, show (0 : Int32) = iI 0 from rfl, iI_sub, iI_n (dis a b)]
  simp only [c]
  unfold dis
  by_cases e : 0 ≤ (a : Int) - b
  · rw [if_pos e]; congr 1
    by_cases q : a ≤ b
    · rw [if_pos q]; omega
    · rw [if_neg q]; omega
  · rw [if_neg e, if_pos (by omega)]; congr 1; omega
theorem dis_c (a b : Nat) : dis a b = dis b a := by
  unfold dis
  repeat' split
  all_goals omega
def Px (x : Nat → Nat) : Prop := ∀ v, v < 3 → x v ≤ 127
theorem sp_Ru_outside (Post : Int32 → MH → Prop) {t : SG} {mu : Nat → Nat → Int32} (hg : CG t mu) (hw : WF t) {v x : Nat} (hv : v < 3) (hx : x ≤ 127) (l : Nat → Int64) : wp_Ru_outside Post 3 (nI v) (nI x) (Hm mu l) ↔ Post (bI (!inR t v x)) (Hm mu l) := by
  have hr := hw.2.2.2.2.2.1 v hv
  have g := hg.2.2.2 v hv
  unfold wp_Ru_outside
  simp only [Option.some.injEq, Sum.inl.injEq, Sum.inr.injEq, Prod.mk.injEq, and_assoc, exists_eq_left', exists_eq_left, exists_and_left, exists_and_right, exists_eq', exists_eq, forall_eq, forall_eq', true_and, and_true, exists_const, Hm_1, gF_Ru_0, gF_Ru_1, gA_lo, gA_hi, vp_in_nI hv (show 3 < 2 ^ 31 by decide), nI_clamp (show v < 2 ^ 31 by omega), g.1, g.2.1, nI_ltI (show x < 2 ^ 31 by omega) (show slo t v < 2 ^ 31 by omega), nI_leI (show x < 2 ^ 31 by omega) (show shi t v < 2 ^ 31 by omega), pf1, pf2]
  refine iff_of_eq (congrArg (fun z => Post z (Hm mu l)) ?_)
  unfold inR bI
  by_cases e1 : x < slo t v
  · have : ¬ (slo t v ≤ x ∧ x ≤ shi t v) := by omega
    simp [e1, this]
  · by_cases e2 : x ≤ shi t v
    · have : slo t v ≤ x ∧ x ≤ shi t v := by omega
      simp [e1, e2, this]
    · have : ¬ (slo t v ≤ x ∧ x ≤ shi t v) := by omega
      simp [e1, e2, this]
theorem sp_Ru_leadingOnes (Post : Int32 → MH → Prop) {t : SG} {mu : Nat → Nat → Int32} (hg : CG t mu) (hw : WF t) {d a b c : Nat} (hd : d ≤ 127) (ha : a ≤ 127) (hb : b ≤ 127) (hc : c ≤ 127) (l : Nat → Int64) : wp_Ru_leadingOnes Post 3 (nI d) (nI a) (nI b) (nI c) (Hm mu l) ↔ Post (nI (ldc t d + ldc t a + ldc t b + ldc t c)) (Hm mu l) := by
  have hF := hw.1
  have hl := lead_lt t
  have e : (7 : Int32) * iI (sF t) + 11 = iI (7 * sF t + 11) := by rw [show (7 : Int32) = iI 7 from rfl, iI_mul, show (11 : Int32) = iI 11 from rfl, iI_add]
  have e2 : ((7 * sF t + 11) % 12).toNat = lead t := rfl
  unfold wp_Ru_leadingOnes wp_Ru_leadingOnes_31 wp_Ru_leadingOnes_49 wp_Ru_leadingOnes_68
  simp only [Option.some.injEq, Sum.inl.injEq, Sum.inr.injEq, Prod.mk.injEq, and_assoc, exists_eq_left', exists_eq_left, exists_and_left, exists_and_right, exists_eq', exists_eq, forall_eq, forall_eq', true_and, and_true, exists_const, Hm_1, gF_Ru_4, hg.2.2.1, e, sp_Ma_floorMod _ (show -64 ≤ 7 * sF t + 11 by omega) (show 7 * sF t + 11 ≤ 63 by omega), e2, rem12 (show d < 2 ^ 31 by omega), rem12 (show a < 2 ^ 31 by omega), rem12 (show b < 2 ^ 31 by omega), rem12 (show c < 2 ^ 31 by omega), nI_eq (show d % 12 < 2 ^ 31 by omega) (show lead t < 2 ^ 31 by omega), nI_eq (show a % 12 < 2 ^ 31 by omega) (show lead t < 2 ^ 31 by omega), nI_eq (show b % 12 < 2 ^ 31 by omega) (show lead t < 2 ^ 31 by omega), nI_eq (show c % 12 < 2 ^ 31 by omega) (show lead t < 2 ^ 31 by omega), forall_eq, pf1, pf2]
  refine iff_of_eq (congrArg (fun z => Post z (Hm mu l)) ?_)
  unfold ldc
  by_cases q1 : d % 12 = lead t <;> by_cases q2 : a % 12 = lead t <;> by_cases q3 : b % 12 = lead t <;> by_cases q4 : c % 12 = lead t <;> simp only [q1, q2, q3, q4, if_true, if_false] <;> decide
theorem sp_Ru_strays {Post : Int32 → MH → Prop} {t : SG} {mu : Nat → Nat → Int32} {i : Nat} (hw : WF t) (hi : i < sn t) (hx2 : CX t i mu) {x : Nat → Nat} (hx : Px x) {l : Nat → Int64} (hp : Post (bI (stray t i 0 (x 0) || stray t i 1 (x 1) || stray t i 2 (x 2))) (Hm mu l)) : wp_Ru_strays Post (8 + 8 * i) (nI (pkv x)) (Hm mu l) := by
  have h12 : i < 12 := by have := hw.n; omega
  have step : ∀ (K : Nat → Int32 → Int32 → MH → Prop) (v : Nat), v < 3 → (stray t i v (x v) = false → K (8 + 8 * i) (nI (pkv x)) (nI (v + 1)) (Hm mu l)) → (stray t i v (x v) = true → Post 1 (Hm mu l)) → wb_Ru_strays_2 K Post (8 + 8 * i) (nI (pkv x)) (nI v) (Hm mu l) := by
    intro K v hv h0 h1
    have hxv := hx v hv
    have hg := hw.2.2.2.2.2.2.1 i hi v hv
    have eg := hx2.2 v hv
    have m1 : iI (sgv t i v) = -1 ↔ sgv t i v = -1 := iI_eq (b := -1) (by omega) (by omega) (by omega) (by omega)
    have m2 : iI (sgv t i v) = nI (x v) ↔ sgv t i v = (x v : Int) := by rw [iI_n]; exact iI_eq (by omega) (by omega) (by omega) (by omega)
    unfold wb_Ru_strays_2 wp_Ru_strays_30
    simp only [Option.some.injEq, Sum.inl.injEq, Sum.inr.injEq, Prod.mk.injEq, and_assoc, exists_eq_left', exists_eq_left, exists_and_left, exists_and_right, exists_eq', exists_eq, forall_eq, forall_eq', true_and, and_true, exists_const, Hm_1, gF_ch_5 _ _ h12, gA_fx _ _ h12, vp_in_nI hv (show 3 < 2 ^ 31 by decide), nI_clamp (show v < 2 ^ 31 by omega), eg, m1, m2, sp_Br_pitchOf _ hx hv, nI_1]
    unfold stray at h0 h1
    refine ⟨fun e => absurd e (nI_ge hv (by decide)), fun _ => ⟨fun e => h0 (by simp; omega), fun e => ⟨fun q => h0 (by simp; omega), fun q => h1 (by simp; omega)⟩⟩⟩
  refine ⟨4, step _ 0 (by decide) (fun a => ?_) (fun a => by simp [a] at hp; exact hp)⟩
  refine step _ 1 (by decide) (fun b => ?_) (fun b => by simp [a, b] at hp; exact hp)
  refine step _ 2 (by decide) (fun c => ?_) (fun c => by simp [a, b, c] at hp; exact hp)
  exact ⟨fun _ => by simp [a, b, c] at hp; exact hp, fun e => absurd (by decide) e⟩
theorem bt_cls (t : SG) (i : Nat) {x : Nat} : bt (tmI t i 8 ||| bit (bN t i % 12)) (x % 12) = okc t i x := by
  rw [b_or, bit_bt _ (by omega) _ (by omega)]
  unfold okc
  rw [has1_bt _ (by omega), Bool.or_comm]
set_option maxHeartbeats 1000000 in
theorem sp_Ru_ofVoicing {Post : Int32 → MH → Prop} {t : SG} {mu : Nat → Nat → Int32} {i : Nat} (hb : CB t mu) (hw : WF t) (hi : i < sn t) {x : Nat → Nat} (hx : Px x) {l : Nat → Int64} (hp : Post (nI (alone t i (x 0) (x 1) (x 2))) (Hm mu l)) : wp_Ru_ofVoicing Post 3 (8 + 8 * i) (nI (pkv x)) (Hm mu l) := by
  have h12 : i < 12 := by have := hw.n; omega
  have hbn := bN_rg hw hi
  have hc := hb.2 i hi
  have h0 := hx 0 (by decide)
  have h1 := hx 1 (by decide)
  have h2 := hx 2 (by decide)
  have O0 := fun P => sp_Ru_outside P hb.1 hw (v := 0) (x := x 0) (by decide) h0 l
  have O1 := fun P => sp_Ru_outside P hb.1 hw (v := 1) (x := x 1) (by decide) h1 l
  have O2 := fun P => sp_Ru_outside P hb.1 hw (v := 2) (x := x 2) (by decide) h2 l
  have P0 := fun P => sp_Br_pitchOf P hx (v := 0) (by decide) (Hm mu l)
  have P1 := fun P => sp_Br_pitchOf P hx (v := 1) (by decide) (Hm mu l)
  have P2 := fun P => sp_Br_pitchOf P hx (v := 2) (by decide) (Hm mu l)
  generalize hpk : nI (pkv x) = pk at P0 P1 P2 ⊢
  unfold wp_Ru_ofVoicing
  simp only [show (0 : Int32) = nI 0 from rfl, show (1 : Int32) = nI 1 from rfl, show (2 : Int32) = nI 2 from rfl, P0, P1, P2, O0, O1, O2, gC_Ru, true_and]
  simp only [show nI 0 = (0 : Int32) from rfl, show nI 1 = (1 : Int32) from rfl, show nI 2 = (2 : Int32) from rfl]
  unfold alone at hp
  cases e0 : inR t 0 (x 0)
  · rw [e0] at hp; exact ⟨fun _ => hp, fun q => by cases q⟩
  refine ⟨fun q => absurd rfl q, fun _ => ?_⟩
  cases e1 : inR t 1 (x 1)
  · rw [e0, e1] at hp; exact ⟨fun _ => hp, fun q => by cases q⟩
  refine ⟨fun q => absurd rfl q, fun _ => ?_⟩
  cases e2 : inR t 2 (x 2)
  · rw [e0, e1, e2] at hp; exact ⟨fun q => (by cases q), fun _ => hp⟩
  refine ⟨fun _ => ?_, fun q => absurd rfl q⟩
  rw [e0, e1, e2] at hp
  simp only [Bool.and_self, if_true] at hp
  have c84 : (bit (x 0 % 12) ||| bit (x 1 % 12) ||| bit (x 2 % 12)) ||| bit (bN t i % 12) = bits4 (x 0) (x 1) (x 2) (bN t i) := (bits4_e _ _ _ _).symm
  simp only [sp_Br_classBit _ (show x 0 < 2 ^ 31 by omega), sp_Br_classBit _ (show x 1 < 2 ^ 31 by omega), sp_Br_classBit _ (show x 2 < 2 ^ 31 by omega), sp_Br_classBit _ (show bN t i < 2 ^ 31 by omega), Option.some.injEq, Sum.inl.injEq, Sum.inr.injEq, Prod.mk.injEq, and_assoc, exists_eq_left', exists_eq_left, exists_and_left, exists_and_right, exists_eq', exists_eq, forall_eq, forall_eq', true_and, and_true, exists_const, Hm_1, gF_ch_8 _ _ h12, gF_ch_7 _ _ h12, gF_ch_1 _ _ h12, hc.2.1.2.2.1, hc.2.1.2.1, hc.1.2.1, or3_not _ (show x 0 % 12 < 32 by omega) (show x 1 % 12 < 32 by omega) (show x 2 % 12 < 32 by omega), bt_cls, c84]
  unfold r2 at hp
  cases ek : (okc t i (x 0) && okc t i (x 1) && okc t i (x 2))
  · rw [ek] at hp; exact ⟨fun q => (by cases q), fun _ => hp⟩
  refine ⟨fun _ => ?_, fun q => absurd rfl q⟩
  rw [ek] at hp
  simp only [if_true] at hp
  unfold r3 at hp
  by_cases e3 : tmI t i 8 &&& (bits4 (x 0) (x 1) (x 2) (bN t i) ^^^ (-1)) = 0
  · rw [if_pos e3] at hp
    refine ⟨fun _ => ?_, fun q => absurd e3 q⟩
    unfold r4 r5 r6 r7 at hp
    have D1 := abs_d h0 h1
    have D2 := abs_d h1 h2
    have d1 := dis_le h0 h1
    have d2 := dis_le h1 h2
    simp only [nI_ltI (show x 0 < 2 ^ 31 by omega) (show x 1 < 2 ^ 31 by omega), nI_ltI (show x 1 < 2 ^ 31 by omega) (show x 2 < 2 ^ 31 by omega), nI_leI (show bN t i < 2 ^ 31 by omega) (show x 2 < 2 ^ 31 by omega), D1, D2, show (12 : Int32) = nI 12 from rfl, nI_ltI (show 12 < 2 ^ 31 by decide) (show dis (x 0) (x 1) < 2 ^ 31 by omega), nI_leI (show dis (x 1) (x 2) < 2 ^ 31 by omega) (show 12 < 2 ^ 31 by decide), gC_Ru, true_and, sp_Ru_leadingOnes _ hb.1 hw (show bN t i ≤ 127 by omega) h0 h1 h2]
    by_cases q1 : x 0 < x 1 ∨ x 1 < x 2 ∨ x 2 < bN t i
    · rw [if_pos q1] at hp
      exact ⟨fun _ => hp, fun a => ⟨fun _ => hp, fun b => ⟨fun c => by omega, fun _ => hp⟩⟩⟩
    · rw [if_neg q1] at hp
      refine ⟨fun a => by omega, fun a => ⟨fun a => by omega, fun b => ⟨fun c => ?_, fun c => by omega⟩⟩⟩
      have f1 : dis (x 0) (x 1) = x 0 - x 1 := by unfold dis; split <;> omega
      have f2 : dis (x 1) (x 2) = x 1 - x 2 := by unfold dis; split <;> omega
      rw [f1, f2]
      by_cases q2 : x 1 + 12 < x 0 ∨ x 2 + 12 < x 1
      · rw [if_pos q2] at hp
        exact ⟨fun _ => hp, fun a => ⟨fun a => by omega, fun _ => hp⟩⟩
      · rw [if_neg q2] at hp
        refine ⟨fun a => by omega, fun a => ⟨fun b => ?_, fun b => by omega⟩⟩
        have l0 := ldc_le t (x 0); have l1 := ldc_le t (x 1); have l2 := ldc_le t (x 2); have l3 := ldc_le t (bN t i)
        rw [show (1 : Int32) = nI 1 from rfl, nI_leI (by omega) (by decide)]
        by_cases q3 : 1 < ldc t (x 0) + ldc t (x 1) + ldc t (x 2) + ldc t (bN t i)
        · rw [if_pos q3] at hp
          exact ⟨fun a => by omega, fun _ => hp⟩
        · rw [if_neg q3] at hp
          refine ⟨fun _ => ?_, fun a => by omega⟩
          rw [← hpk]
          refine sp_Ru_strays hw hi hc.2.2 hx ?_
          rw [bI_0]
          cases es : (stray t i 0 (x 0) || stray t i 1 (x 1) || stray t i 2 (x 2))
          · rw [es] at hp; exact ⟨fun _ => hp, fun q => absurd rfl q⟩
          · rw [es] at hp; exact ⟨fun q => (by cases q), fun _ => hp⟩
  · rw [if_neg e3] at hp
    exact ⟨fun q => absurd q e3, fun _ => hp⟩
theorem sp_Ru_ofStart {Post : Int32 → MH → Prop} {t : SG} {mu : Nat → Nat → Int32} (hb : CB t mu) (hw : WF t) (hi : 0 < sn t) {x : Nat → Nat} (hx : Px x) {l : Nat → Int64} (hp : Post (nI (pair0 t x)) (Hm mu l)) : wp_Ru_ofStart Post 3 8 (nI (pkv x)) (Hm mu l) := by
  have hc := (hb.2 0 hi).2.1.2.2.2.1
  have step : ∀ (K : Nat → Int32 → Int32 → MH → Prop) (v : Nat), v < 3 → (hl0 t x v = false → K 8 (nI (pkv x)) (nI (v + 1)) (Hm mu l)) → (hl0 t x v = true → Post 10 (Hm mu l)) → wb_Ru_ofStart_2 K Post 8 (nI (pkv x)) (nI v) (Hm mu l) := by
    intro K v hv h0 h1
    have hxv := hx v hv
    unfold wb_Ru_ofStart_2
    have g9 : gF (Hm mu l) 8 0 9 = some (.inl (smI t 0 8)) := by rw [← hc]; exact gF_ch_9 mu l (i := 0) (by decide)
    simp only [Option.some.injEq, Sum.inl.injEq, Sum.inr.injEq, Prod.mk.injEq, and_assoc, exists_eq_left', exists_eq_left, exists_and_left, exists_and_right, exists_eq', exists_eq, forall_eq, forall_eq', true_and, and_true, exists_const, Hm_1, sp_Br_pitchOf _ hx hv, sp_Br_classBit _ (show x v < 2 ^ 31 by omega), g9, bit_and _ (show x v % 12 < 32 by omega), nI_1]
    unfold hl0 at h0 h1
    rw [has1_bt _ (by omega)] at h0 h1
    refine ⟨fun e => absurd e (nI_ge hv (by decide)), fun _ => ⟨fun e => h0 e, fun e => h1 (by simpa using e)⟩⟩
  unfold pair0 at hp
  refine ⟨4, step _ 0 (by decide) (fun a => ?_) (fun a => by simp [a] at hp; exact hp)⟩
  refine step _ 1 (by decide) (fun b => ?_) (fun b => by simp [a, b] at hp; exact hp)
  refine step _ 2 (by decide) (fun c => ?_) (fun c => by simp [a, b, c] at hp; exact hp)
  exact ⟨fun _ => by simp [a, b, c] at hp; exact hp, fun e => absurd (by decide) e⟩
theorem sp_Ru_farFromHome {Post : Int32 → MH → Prop} {t : SG} {mu : Nat → Nat → Int32} (hg : CG t mu) (hw : WF t) {x : Nat → Nat} (hx : Px x) {l : Nat → Int64} (hp : Post (nI (csH t x)) (Hm mu l)) : wp_Ru_farFromHome Post 3 (nI (pkv x)) (Hm mu l) := by
  have step : ∀ (K : Nat → Int32 → Int32 → Int32 → MH → Prop) (c v : Nat), v < 3 → K 3 (nI (pkv x)) (nI (c + dis (x v) (sho t v))) (nI (v + 1)) (Hm mu l) → wb_Ru_farFromHome_4 K Post 3 (nI (pkv x)) (nI c) (nI v) (Hm mu l) := by
    intro K c v hv hK
    have hxv := hx v hv
    have hr := hw.2.2.2.2.2.1 v hv
    unfold wb_Ru_farFromHome_4
    simp only [Option.some.injEq, Sum.inl.injEq, Sum.inr.injEq, Prod.mk.injEq, and_assoc, exists_eq_left', exists_eq_left, exists_and_left, exists_and_right, exists_eq', exists_eq, forall_eq, forall_eq', true_and, and_true, exists_const, Hm_1, sp_Br_pitchOf _ hx hv, gF_Ru_2, gA_ho, vp_in_nI hv (show 3 < 2 ^ 31 by decide), nI_clamp (show v < 2 ^ 31 by omega), (hg.2.2.2 v hv).2.2, abs_d hxv hr.2.2.2, nI_add, nI_1]
    exact ⟨fun e => absurd e (nI_ge hv (by decide)), fun _ => hK⟩
  refine ⟨4, step _ 0 0 (by decide) (step _ _ 1 (by decide) (step _ _ 2 (by decide) ?_))⟩
  refine ⟨fun _ => ?_, fun q => absurd (by decide) q⟩
  unfold csH at hp
  rw [Nat.zero_add]
  exact hp
