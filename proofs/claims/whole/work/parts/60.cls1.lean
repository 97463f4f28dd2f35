def plR (t l : Nat) : Nat := if t = 1 then plc l else 6 - plc l
theorem row_tab : ∀ t, t < 3 → 0 < t → ∀ l, l < 7 → ∀ k, k < 7 → (m_sV t k = nI l ↔ k = plR t l) := by decide +kernel
theorem plR_le : ∀ t, t < 3 → 0 < t → ∀ l, l < 7 → plR t l < 7 := by decide
theorem ka27 {Post : Int32 → MH → Prop} {t lt : Nat} (ht : t < 3) (ht0 : 0 < t) (hl : lt ≤ 6) {F : Int32} {sg : Nat} (hs : sg ≤ 7) {h : MH} (hp : Post (if plR t lt < sg then (if F ≤ 0 then -1 else 1) else 0) h) : ∀ j k, k + j = sg → k ≤ plR t lt → wn_Br_keyAlter_27 Post (j + 1) (nI lt) F t (nI sg) (nI k) h := by
  have hN : m_sN t = 7 := by
    rcases (show t = 1 ∨ t = 2 by omega) with rfl | rfl <;> rfl
  intro j
  induction j with
  | zero =>
    intro k hk hpl
    obtain rfl : k = sg := by omega
    rw [if_neg (by omega)] at hp
    exact ⟨fun _ => hp, fun e => absurd ((nI_leI (by omega) (by omega)).mpr (Nat.le_refl _)) e⟩
  | succ j ih =>
    intro k hk hpl
    show wb_Br_keyAlter_27 _ _ _ _ _ _ _ _
    unfold wb_Br_keyAlter_27
    rw [nI_leI (by omega) (by omega), hN, nI_clamp (by omega), row_tab t ht ht0 lt (by omega) k (by omega), nI_1]
    refine ⟨fun e => absurd e (by omega), fun _ => ⟨ht, vp_in_nI (by omega) (by decide), fun e => ih (k + 1) (by omega) (by omega), fun e => ?_⟩⟩
    rw [if_pos (by omega)] at hp
    by_cases c : F ≤ 0
    · rw [if_pos c] at hp; exact ⟨fun _ => hp, fun q => absurd c q⟩
    · rw [if_neg c] at hp; exact ⟨fun q => absurd q c, fun _ => hp⟩
theorem plc_le (l : Nat) : plc l ≤ 6 := by unfold plc; repeat' split
                                           all_goals omega
theorem sp_Br_keyAlter {Post : Int32 → MH → Prop} {F : Int} (h1 : -7 ≤ F) (h2 : F ≤ 7) {lt : Nat} (hl : lt ≤ 6) {h : MH} (hp : Post (iI (kal F lt)) h) : wp_Br_keyAlter Post (nI lt) (iI F) h := by
  have hpl := plc_le lt
  have c0 : iI F ≤ 0 ↔ F ≤ 0 := iI_le (b := 0) (by omega) (by omega) (by omega) (by omega)
  have c1 : (0 : Int32) ≤ iI F ↔ 0 ≤ F := iI_le (a := 0) (by omega) (by omega) (by omega) (by omega)
  have ng : (0 : Int32) - iI F = iI (-F) := by rw [show (0 : Int32) = iI 0 from rfl, iI_sub]; congr 1; omega
  unfold wp_Br_keyAlter wp_Br_keyAlter_13
  simp only [c0, c1]
  refine ⟨fun e => ⟨by decide, fun z hz => ?_⟩, fun e => ⟨by decide, fun z hz => ?_⟩⟩
  · have e1 : (if 0 ≤ F then iI F else 0 - iI F) = nI (-F).toNat := by
      rw [ng]
      by_cases q : 0 ≤ F
      · rw [if_pos q, iI_n]; congr 1; omega
      · rw [if_neg q, iI_n]; congr 1; omega
    rw [e1, show m_sN 2 = 7 from rfl, if_neg (by rw [nI_ltI (by decide) (by omega)]; omega)] at hz
    subst hz
    refine ⟨_, ka27 (t := 2) (by decide) (by decide) hl (sg := (-F).toNat) (by omega) ?_ (-F).toNat 0 (by omega) (by omega)⟩
    rw [if_pos (c0.mpr e)]
    have : (if plR 2 lt < (-F).toNat then (-1 : Int32) else 0) = iI (kal F lt) := by
      unfold kal
      show (if 6 - plc lt < (-F).toNat then (-1 : Int32) else 0) = _
      by_cases q : 6 - plc lt < (-F).toNat
      · rw [if_pos q, if_neg (by omega), if_pos (by omega)]; rfl
      · rw [if_neg q, if_neg (by omega), if_neg (by omega)]; rfl
    rw [this]; exact hp
  · have e1 : (if 0 ≤ F then iI F else 0 - iI F) = nI F.toNat := by
      rw [if_pos (by omega), iI_n]; congr 1; omega
    rw [e1, show m_sN 1 = 7 from rfl, if_neg (by rw [nI_ltI (by decide) (by omega)]; omega)] at hz
    subst hz
    refine ⟨_, ka27 (t := 1) (by decide) (by decide) hl (sg := F.toNat) (by omega) ?_ F.toNat 0 (by omega) (by omega)⟩
    rw [if_neg (fun q => e (c0.mp q))]
    have : (if plR 1 lt < F.toNat then (1 : Int32) else 0) = iI (kal F lt) := by
      unfold kal
      show (if plc lt < F.toNat then (1 : Int32) else 0) = _
      by_cases q : plc lt < F.toNat
      · rw [if_pos q, if_pos (by omega)]; rfl
      · rw [if_neg q, if_neg (by omega), if_neg (by omega)]; rfl
    rw [this]; exact hp
def fmod (x : Int32) : Int32 := if 0 ≤ x ^^^ 12 then x - x / 12 * 12 else if x - x / 12 * 12 = 0 then x - x / 12 * 12 else x - x / 12 * 12 + 12
theorem fmod_tab : ∀ j : Nat, j < 128 → fmod (iI ((j : Int) - 64)) = nI ((((j : Int) - 64) % 12).toNat) := by decide +kernel
theorem sp_Ma_floorMod (Post : Int32 → MH → Prop) {x : Int} (h1 : -64 ≤ x) (h2 : x ≤ 63) (h : MH) : wp_Ma_floorMod Post (iI x) 12 h ↔ Post (nI ((x % 12).toNat)) h := by
  have e := fmod_tab (x + 64).toNat (by omega)
  rw [show (((x + 64).toNat : Nat) : Int) - 64 = x by omega] at e
  rw [← e]
  unfold wp_Ma_floorMod fmod
  simp only [forall_eq, pf1, pf2]
  have n : ¬ (12 : Int32) = 0 := by decide
  simp [n]
def hnd (o : Option (Nat × Nat × Nat)) : Int32 := match o with
  | none => -1
  | some t => nI (pkN t.1 t.2.1 t.2.2)
def CK (t : SG) (i : Nat) (mu : Nat → Nat → Int32) : Prop := mu (8 + 8 * i) 0 = nI (slt t i) ∧ mu (8 + 8 * i) 1 = nI (bN t i) ∧ mu (8 + 8 * i) 2 = mk8 (tl t i) ∧ ∀ f, f < 10 → mu (9 + 8 * i) f = nI (std t i f - 1)
def CT (t : SG) (i : Nat) (mu : Nat → Nat → Int32) : Prop := mu (8 + 8 * i) 3 = mk8 (isW t i) ∧ mu (8 + 8 * i) 7 = tmI t i 8 ∧ mu (8 + 8 * i) 8 = tmI t i 8 ||| bit (bN t i % 12) ∧ mu (8 + 8 * i) 9 = smI t i 8 ∧ mu (8 + 8 * i) 10 = fmI t i 8
def CX (t : SG) (i : Nat) (mu : Nat → Nat → Int32) : Prop := mu (8 + 8 * i) 6 = hnd (ssg t i) ∧ ∀ v, v < 3 → mu (10 + 8 * i) v = iI (sgv t i v)
theorem sp_Ch_toneLetter (Post : Int32 → MH → Prop) {t : SG} {mu : Nat → Nat → Int32} {i f : Nat} (h12 : i < 12) (hl : slt t i ≤ 6) (hc : mu (8 + 8 * i) 0 = nI (slt t i)) (h1 : 1 ≤ f) (hf : f < 10) (l : Nat → Int64) : wp_Ch_toneLetter Post (8 + 8 * i) (nI f) (Hm mu l) ↔ Post (nI (tlet t i f)) (Hm mu l) := by
  unfold wp_Ch_toneLetter
  simp only [Option.some.injEq, Sum.inl.injEq, Sum.inr.injEq, Prod.mk.injEq, and_assoc, exists_eq_left', exists_eq_left, exists_and_left, exists_and_right, exists_eq', exists_eq, forall_eq, forall_eq', true_and, and_true, exists_const, Hm_1, gF_ch_0 _ _ h12, hc, nI_add, n_sub1 (show 1 ≤ slt t i + f by omega), show (7 : Int32) = nI 7 from rfl, pk_rem (show slt t i + f - 1 < 2 ^ 31 by omega) (show 0 < 7 by omega) (show 7 < 2 ^ 31 by omega)]
  rfl
theorem sp_Ch_toneAlter {Post : Int32 → MH → Prop} {t : SG} {mu : Nat → Nat → Int32} {i f : Nat} (hw : WF t) (hi : i < sn t) (hc : CK t i mu) (h1 : 1 ≤ f) (hf : f < 10) {l : Nat → Int64} (hp : Post (iI (talt t i f)) (Hm mu l)) : wp_Ch_toneAlter Post (8 + 8 * i) (nI f) (iI (sF t)) (Hm mu l) := by
  have h12 : i < 12 := by have := hw.n; omega
  have h4 := hw.td hi f
  have hlt := hw.lt hi
  have ht : tlet t i f ≤ 6 := by unfold tlet; omega
  unfold wp_Ch_toneAlter
  simp only [Option.some.injEq, Sum.inl.injEq, Sum.inr.injEq, Prod.mk.injEq, and_assoc, exists_eq_left', exists_eq_left, exists_and_left, exists_and_right, exists_eq', exists_eq, forall_eq, forall_eq', true_and, and_true, exists_const, Hm_1, gF_ch_4 _ _ h12, gC_ch _ _ h12, gA_sg _ _ h12, vp_in_nI (show f < 10 by omega) (show 10 < 2 ^ 31 by decide), nI_clamp (show f < 2 ^ 31 by omega), hc.2.2.2 f hf, sp_Ch_toneLetter _ h12 hlt hc.1 h1 hf]
  have KK : ∀ {P : Int32 → MH → Prop}, P (iI (kal (sF t) (tlet t i f))) (Hm mu l) → wp_Br_keyAlter P (nI (tlet t i f)) (iI (sF t)) (Hm mu l) := fun hq => sp_Br_keyAlter hw.1.1 hw.1.2 ht hq
  have q : ∀ k : Nat, k < 4 → (nI (std t i f - 1) = nI k ↔ std t i f - 1 = k) := fun k hk => nI_eq (by omega) (by omega)
  have q1 : nI (std t i f - 1) = 1 ↔ std t i f - 1 = 1 := q 1 (by decide)
  have q2 : nI (std t i f - 1) = 2 ↔ std t i f - 1 = 2 := q 2 (by decide)
  have q3 : nI (std t i f - 1) = 3 ↔ std t i f - 1 = 3 := q 3 (by decide)
  rw [q1, q2, q3]
  unfold talt at hp
  refine ⟨fun e => ?_, fun e => ?_, fun e => ?_, fun e1 e2 e3 => KK ?_⟩
  · rw [if_pos (by omega)] at hp; exact hp
  · rw [if_neg (by omega), if_pos (by omega)] at hp; exact hp
  · rw [if_neg (by omega), if_neg (by omega), if_pos (by omega)] at hp; exact hp
  · rw [if_neg (by omega), if_neg (by omega), if_neg (by omega)] at hp; exact hp
theorem stp_tab : ∀ k, k < 7 → m_sV 0 k = nI (semi k) := by decide +kernel
theorem sp_Ch_toneClass {Post : Int32 → MH → Prop} {t : SG} {mu : Nat → Nat → Int32} {i f : Nat} (hw : WF t) (hi : i < sn t) (hc : CK t i mu) (h1 : 1 ≤ f) (hf : f < 10) {l : Nat → Int64} (hp : Post (nI (tcl t i f)) (Hm mu l)) : wp_Ch_toneClass Post (8 + 8 * i) (nI f) (iI (sF t)) (Hm mu l) := by
  have h12 : i < 12 := by have := hw.n; omega
  have hlt := hw.lt hi
  have ht : tlet t i f ≤ 6 := by unfold tlet; omega
  have hs := semi_le ht
  have hr := talt_rg t i f
  unfold wp_Ch_toneClass
  simp only [Option.some.injEq, Sum.inl.injEq, Sum.inr.injEq, Prod.mk.injEq, and_assoc, exists_eq_left', exists_eq_left, exists_and_left, exists_and_right, exists_eq', exists_eq, forall_eq, forall_eq', true_and, and_true, exists_const, Hm_1, gC_ch _ _ h12, sp_Ch_toneLetter _ h12 hlt hc.1 h1 hf, nI_clamp (show tlet t i f < 2 ^ 31 by omega), stp_tab _ (show tlet t i f < 7 by omega)]
  refine ⟨by decide, vp_in_nI (show tlet t i f < 7 by omega) (by decide), sp_Ch_toneAlter hw hi hc h1 hf ?_⟩
  rw [iI_n, iI_add, sp_Ma_floorMod _ (by omega) (by omega)]
  exact hp
def knd (t : SG) (i f : Nat) : Nat := if f = 7 then 2 else if isS t i f then 1 else 0
set_option maxHeartbeats 1000000 in
theorem sp_Ch_kind (Post : Int32 → MH → Prop) {t : SG} {mu : Nat → Nat → Int32} {i f : Nat} (h12 : i < 12) (hc : mu (8 + 8 * i) 3 = mk8 (isW t i)) (hf : f < 10) (l : Nat → Int64) : wp_Ch_kind Post (8 + 8 * i) (nI f) (Hm mu l) ↔ Post (nI (knd t i f)) (Hm mu l) := by
  have T := fun (P : Int32 → MH → Prop) => sp_Ch_has P (isW t i) (Hm mu l)
  have T2 := fun P => T P 2 (by decide) (by decide)
  have T3 := fun P => T P 3 (by decide) (by decide)
  have T6 := fun P => T P 6 (by decide) (by decide)
  unfold wp_Ch_kind wp_Ch_kind_51 wp_Ch_kind_52
  simp only [show (9 : Int32) = nI 9 from rfl, show (7 : Int32) = nI 7 from rfl, show (2 : Int32) = nI 2 from rfl, show (3 : Int32) = nI 3 from rfl, show (4 : Int32) = nI 4 from rfl, show (6 : Int32) = nI 6 from rfl, nI_eq (show f < 2 ^ 31 by omega), Option.some.injEq, Sum.inl.injEq, Sum.inr.injEq, Prod.mk.injEq, and_assoc, exists_eq_left', exists_eq_left, exists_and_left, exists_and_right, exists_eq', exists_eq, forall_eq, forall_eq', true_and, and_true, exists_const, Hm_1, gF_ch_3 _ _ h12, hc, T2, T3, T6, bI_0, pf1, pf2, Nat.reducePow, Nat.reduceLT]
  refine iff_of_eq (congrArg (fun z => Post z (Hm mu l)) ?_)
  unfold knd isS
  generalize isW t i 2 = b2
  generalize isW t i 3 = b3
  generalize isW t i 6 = b6
  by_cases e7 : f = 7
  · subst e7; revert b2 b3 b6; decide
  · by_cases e9 : f = 9
    · subst e9; revert b2 b3 b6; decide
    · by_cases e4 : f = 4
      · subst e4; revert b2 b3 b6; decide
      · simp [e7, e9, e4]; rfl
def wk (p : Nat → Bool) (f : Nat) : Bool := p f || (match f with
  | 3 => !p 2 && !p 4
  | 4 => p 2 && !p 5
  | 5 => !p 2 && !p 6 && !(p 3 && p 4) && !(p 7 && p 9)
  | 6 => (p 2 && !p 5) || (p 3 && p 4)
  | _ => false)
theorem wk_tl (t : SG) (i : Nat) : wk (tl t i) = isW t i := rfl
theorem cq137 (Post : Int32 → MH → Prop) (a b : Bool) (x : Int32) (h : MH) : wp_Ch_complete_137 Post (bI a) (bI b) x h ↔ Post (if a || b then x ||| 64 else x) h := by
  unfold wp_Ch_complete_137 wp_Ch_complete_145
  cases a <;> cases b <;> simp [bI]
def w5 (b2 b6 a b c : Bool) (x : Int32) : Int32 := if a || b then (if !b2 && !b6 && !b && !c then x ||| 32 else x) ||| 64 else (if !b2 && !b6 && !b && !c then x ||| 32 else x)
theorem cq105 (Post : Int32 → MH → Prop) (p : Nat → Bool) (a b c : Bool) (x : Int32) (h : MH) : wp_Ch_complete_105 Post (mk8 p) (bI a) (bI b) (bI c) x h ↔ Post (w5 (p 2) (p 6) a b c x) h := by
  unfold wp_Ch_complete_105
  simp only [show (2 : Int32) = nI 2 from rfl, show (6 : Int32) = nI 6 from rfl, sp_Ch_has _ p h 2 (by decide) (by decide), sp_Ch_has _ p h 6 (by decide) (by decide), cq137, forall_eq, bI_0]
  unfold w5
  cases p 2 <;> cases p 6 <;> cases b <;> cases c <;> simp
def w4 (b2 b6 a b c : Bool) (x : Int32) : Int32 := w5 b2 b6 a b c (if a then x ||| 16 else x)
theorem cq94 (Post : Int32 → MH → Prop) (p : Nat → Bool) (a b c : Bool) (x : Int32) (h : MH) : wp_Ch_complete_94 Post (mk8 p) (bI a) (bI b) (bI c) x h ↔ Post (w4 (p 2) (p 6) a b c x) h := by
  unfold wp_Ch_complete_94
  simp only [cq105, forall_eq, bI_0]
  unfold w4
  cases a <;> simp
def w3 (b2 b4 b6 a b c : Bool) (x : Int32) : Int32 := w4 b2 b6 a b c (if !b2 && !b4 then x ||| 8 else x)
theorem cq67 (Post : Int32 → MH → Prop) (p : Nat → Bool) (a b c : Bool) (h : MH) : wp_Ch_complete_67 Post (mk8 p) (bI a) (bI b) (bI c) h ↔ Post (w3 (p 2) (p 4) (p 6) a b c (mk8 p)) h := by
  unfold wp_Ch_complete_67
  simp only [show (2 : Int32) = nI 2 from rfl, show (4 : Int32) = nI 4 from rfl, sp_Ch_has _ p h 2 (by decide) (by decide), sp_Ch_has _ p h 4 (by decide) (by decide), cq94, forall_eq, bI_0]
  unfold w3
  cases p 2 <;> cases p 4 <;> simp
theorem cq43 (Post : Int32 → MH → Prop) (p : Nat → Bool) (a b : Bool) (h : MH) : wp_Ch_complete_43 Post (mk8 p) (bI a) (bI b) h ↔ Post (w3 (p 2) (p 4) (p 6) a b (p 7 && p 9) (mk8 p)) h := by
  unfold wp_Ch_complete_43 wp_Ch_complete_66
  have q0 := fun a b => cq67 Post p a b false h
  have q1 := fun a b => cq67 Post p a b true h
  simp only [bI_t, bI_f] at q0 q1
  simp only [show (7 : Int32) = nI 7 from rfl, show (9 : Int32) = nI 9 from rfl, sp_Ch_has _ p h 7 (by decide) (by decide), sp_Ch_has _ p h 9 (by decide) (by decide), q0, q1, bI_0]
  cases p 7 <;> cases p 9 <;> simp
theorem cq21 (Post : Int32 → MH → Prop) (p : Nat → Bool) (a : Bool) (h : MH) : wp_Ch_complete_21 Post (mk8 p) (bI a) h ↔ Post (w3 (p 2) (p 4) (p 6) a (p 3 && p 4) (p 7 && p 9) (mk8 p)) h := by
  unfold wp_Ch_complete_21 wp_Ch_complete_42
  have q0 := fun a => cq43 Post p a false h
  have q1 := fun a => cq43 Post p a true h
  simp only [bI_t, bI_f] at q0 q1
  simp only [show (3 : Int32) = nI 3 from rfl, show (4 : Int32) = nI 4 from rfl, sp_Ch_has _ p h 3 (by decide) (by decide), sp_Ch_has _ p h 4 (by decide) (by decide), q0, q1, bI_0]
  cases p 3 <;> cases p 4 <;> simp
theorem wk_tab : ∀ b2 b3 b4 b5 b6 b7 b8 b9 : Bool, w3 b2 b4 b6 (b2 && !b5) (b3 && b4) (b7 && b9) (m8 b2 b3 b4 b5 b6 b7 b8 b9) = m8 b2 (b3 || (!b2 && !b4)) (b4 || (b2 && !b5)) (b5 || (!b2 && !b6 && !(b3 && b4) && !(b7 && b9))) (b6 || ((b2 && !b5) || (b3 && b4))) b7 b8 b9 := by decide +kernel
theorem sp_Ch_complete (Post : Int32 → MH → Prop) (p : Nat → Bool) (h : MH) : wp_Ch_complete Post (mk8 p) h ↔ Post (mk8 (wk p)) h := by
  have e : mk8 (wk p) = w3 (p 2) (p 4) (p 6) (p 2 && !p 5) (p 3 && p 4) (p 7 && p 9) (mk8 p) := by
    have hm : mk8 p = m8 (p 2) (p 3) (p 4) (p 5) (p 6) (p 7) (p 8) (p 9) := rfl
    rw [hm, wk_tab]
    unfold mk8 wk
    simp only [Bool.or_false]
  rw [e]
  unfold wp_Ch_complete wp_Ch_complete_20
  have q0 := cq21 Post p false h
  have q1 := cq21 Post p true h
  simp only [bI_t, bI_f] at q0 q1
  simp only [show (2 : Int32) = nI 2 from rfl, show (5 : Int32) = nI 5 from rfl, sp_Ch_has _ p h 2 (by decide) (by decide), sp_Ch_has _ p h 5 (by decide) (by decide), q0, q1, bI_0]
  cases p 2 <;> cases p 5 <;> simp
