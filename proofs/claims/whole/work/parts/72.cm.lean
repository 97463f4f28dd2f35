def Sam (s t : SG) (j : Nat) : Prop := sF s = sF t ∧ slt s j = slt t j ∧ soc s j = soc t j ∧ sal s j = sal t j ∧ ∀ f, std s j f = std t j f
theorem Sam.e_tl {s t : SG} {j : Nat} (h : Sam s t j) : tl s j = tl t j := by funext f; unfold tl; rw [h.2.2.2.2 f]
theorem Sam.e_isW {s t : SG} {j : Nat} (h : Sam s t j) : isW s j = isW t j := by funext f; exact isW_c h.2.2.2.2 f
theorem Sam.e_tlet {s t : SG} {j : Nat} (h : Sam s t j) (f : Nat) : tlet s j f = tlet t j f := by unfold tlet; rw [h.2.1]
theorem Sam.e_talt {s t : SG} {j : Nat} (h : Sam s t j) (f : Nat) : talt s j f = talt t j f := by unfold talt; rw [h.e_tlet, h.2.2.2.2 f, h.1]
theorem Sam.e_tcl {s t : SG} {j : Nat} (h : Sam s t j) (f : Nat) : tcl s j f = tcl t j f := by unfold tcl; rw [h.e_tlet, h.e_talt]
theorem Sam.e_isS {s t : SG} {j : Nat} (h : Sam s t j) (f : Nat) : isS s j f = isS t j f := by unfold isS; rw [h.e_isW]
theorem Sam.e_tm {s t : SG} {j : Nat} (h : Sam s t j) : ∀ k, tmI s j k = tmI t j k
  | 0 => rfl
  | k + 1 => by
    show (if isW s j (k + 2) then tmI s j k ||| bit (tcl s j (k + 2)) else tmI s j k) = (if isW t j (k + 2) then tmI t j k ||| bit (tcl t j (k + 2)) else tmI t j k)
    rw [h.e_isW, h.e_tcl, h.e_tm k]
theorem Sam.e_sm {s t : SG} {j : Nat} (h : Sam s t j) : ∀ k, smI s j k = smI t j k
  | 0 => rfl
  | k + 1 => by
    show (if isW s j (k + 2) && isS s j (k + 2) then smI s j k ||| bit (tcl s j (k + 2)) else smI s j k) = (if isW t j (k + 2) && isS t j (k + 2) then smI t j k ||| bit (tcl t j (k + 2)) else smI t j k)
    rw [h.e_isW, h.e_isS, h.e_tcl, h.e_sm k]
theorem Sam.e_fm {s t : SG} {j : Nat} (h : Sam s t j) : ∀ k, fmI s j k = fmI t j k
  | 0 => rfl
  | k + 1 => by
    show (if isW s j (k + 2) && (k + 2 == 7) then fmI s j k ||| bit (tcl s j (k + 2)) else fmI s j k) = (if isW t j (k + 2) && (k + 2 == 7) then fmI t j k ||| bit (tcl t j (k + 2)) else fmI t j k)
    rw [h.e_isW, h.e_tcl, h.e_fm k]
theorem Sam.e_bN {s t : SG} {j : Nat} (h : Sam s t j) : bN s j = bN t j := by unfold bN bas; rw [h.2.1, h.2.2.1, h.2.2.2.1]
theorem CC.c {s t : SG} {i : Nat} (h : Sam s t i) (hg : ssg s i = ssg t i) (hv : ∀ v, sgv s i v = sgv t i v) {mu : Nat → Nat → Int32} (hc : CC s i mu) : CC t i mu := by
  unfold CC CK CT CX at *
  rw [h.2.1, h.e_bN, h.e_tl, h.e_isW, h.e_tm, h.e_sm, h.e_fm, hg] at hc
  refine ⟨⟨hc.1.1, hc.1.2.1, hc.1.2.2.1, fun f hf => ?_⟩, hc.2.1, hc.2.2.1, fun v hv2 => ?_⟩
  · rw [← h.2.2.2.2 f]; exact hc.1.2.2.2 f hf
  · rw [← hv v]; exact hc.2.2.2 v hv2
theorem Sam.e_al {s t : SG} {j : Nat} (h : Sam s t j) (hl : slo s = slo t) (hh : shi s = shi t) (hv : ∀ v, sgv s j v = sgv t j v) (a b c : Nat) : alone s j a b c = alone t j a b c := by
  unfold alone r2 r3 r4 r5 r6 r7 inR okc ldc stray lead
  rw [h.e_tm, h.e_bN, hl, hh, h.1, hv 0, hv 1, hv 2]
theorem VLc_e {s t : SG} {j : Nat} (h : ∀ a b c, alone s j a b c = alone t j a b c) (a b : Nat) : ∀ n c, VLc s j a b c n = VLc t j a b c n
  | 0, _ => rfl
  | n + 1, c => by
    show (if alone s j a b c = 0 then [(a, b, c)] else []) ++ VLc s j a b (c + 1) n = (if alone t j a b c = 0 then [(a, b, c)] else []) ++ VLc t j a b (c + 1) n
    rw [h, VLc_e h a b n (c + 1)]
theorem VLb_e {s t : SG} {j : Nat} (h : ∀ a b c, alone s j a b c = alone t j a b c) (hl : slo s = slo t) (hh : shi s = shi t) (a : Nat) : ∀ n b, VLb s j a b n = VLb t j a b n
  | 0, _ => rfl
  | n + 1, b => by
    show VLc s j a b (slo s 2) (shi s 2 + 1 - slo s 2) ++ VLb s j a (b + 1) n = VLc t j a b (slo t 2) (shi t 2 + 1 - slo t 2) ++ VLb t j a (b + 1) n
    rw [VLc_e h, hl, hh, VLb_e h hl hh a n (b + 1)]
theorem VLa_e {s t : SG} {j : Nat} (h : ∀ a b c, alone s j a b c = alone t j a b c) (hl : slo s = slo t) (hh : shi s = shi t) : ∀ n a, VLa s j a n = VLa t j a n
  | 0, _ => rfl
  | n + 1, a => by
    show VLb s j a (slo s 1) (shi s 1 + 1 - slo s 1) ++ VLa s j (a + 1) n = VLb t j a (slo t 1) (shi t 1 + 1 - slo t 1) ++ VLa t j (a + 1) n
    rw [VLb_e h hl hh, hl, hh, VLa_e h hl hh n (a + 1)]
theorem Sam.e_VL {s t : SG} {j : Nat} (h : Sam s t j) (hl : slo s = slo t) (hh : shi s = shi t) (hv : ∀ v, sgv s j v = sgv t j v) : VL s j = VL t j := by
  unfold VL
  rw [VLa_e (h.e_al hl hh hv) hl hh, hl, hh]
theorem Lst.c {s t : SG} {j : Nat} (h : Sam s t j) (hl : slo s = slo t) (hh : shi s = shi t) (hv : ∀ v, sgv s j v = sgv t j v) {m : Nat → Nat → Int32} (hL : Lst s j m) : Lst t j m := by
  have e := h.e_VL hl hh hv
  have b := h.e_bN
  unfold Lst sz vv Vk xv at *
  rw [e, b] at hL
  exact hL
theorem Col.c {s t : SG} {j : Nat} (h : Sam s t j) (hl : slo s = slo t) (hh : shi s = shi t) (hv : ∀ v, sgv s j v = sgv t j v) {m : Nat → Nat → Int32} (hC : Col s j m) : Col t j m := by
  rcases hC with c | c
  · exact Or.inl c
  · exact Or.inr ⟨c.1, c.2.c h hl hh hv⟩
def FA (mu m : Nat → Nat → Int32) : Prop := (∀ k, ¬ k = 1 → ¬ (11 ≤ k ∧ k < 104 ∧ k % 8 = 3) → m k = mu k) ∧ (∀ i, i < 12 → m (11 + 8 * i) 5 = 0) ∧ m 1 8 = 0
theorem sp_Se_forgetAll {Post : MH → Prop} {mu : Nat → Nat → Int32} {l : Nat → Int64} (hp : ∀ m2, FA mu m2 → Post (Hm m2 l)) : wp_Se_forgetAll Post 1 (Hm mu l) := by
  have key : ∀ (j i : Nat) (m : Nat → Nat → Int32), i + j = 12 → (∀ k, ¬ (11 ≤ k ∧ k < 104 ∧ k % 8 = 3) → m k = mu k) → (∀ q, q < i → m (11 + 8 * q) 5 = 0) → wn_Se_forgetAll_2 Post (j + 1) 1 (nI i) (Hm m l) := by
    intro j
    induction j with
    | zero =>
      intro i m hi hm h5
      obtain rfl : i = 12 := by omega
      show wb_Se_forgetAll_2 _ _ _ _ _
      unfold wb_Se_forgetAll_2
      simp only [Option.some.injEq, Sum.inl.injEq, Sum.inr.injEq, Prod.mk.injEq, and_assoc, exists_eq_left', exists_eq_left, exists_and_left, exists_and_right, exists_eq', exists_eq, forall_eq, forall_eq', true_and, and_true, exists_const, Hm_1, gF_Se_8, fs_Se_8]
      refine ⟨fun _ => hp _ ⟨fun k h1 h2 => by rw [up_k h1]; exact hm k h2, fun q hq => by rw [up_k (by omega)]; exact h5 q hq, up_at _ _ _ _⟩, fun e => absurd (by decide) e⟩
    | succ j ih =>
      intro i m hi hm h5
      have h12 : i < 12 := by omega
      show wb_Se_forgetAll_2 _ _ _ _ _
      unfold wb_Se_forgetAll_2
      simp only [Option.some.injEq, Sum.inl.injEq, Sum.inr.injEq, Prod.mk.injEq, and_assoc, exists_eq_left', exists_eq_left, exists_and_left, exists_and_right, exists_eq', exists_eq, forall_eq, forall_eq', true_and, and_true, exists_const, Hm_1, gF_Se_2, gR_CO, vp_in_nI h12 (show 12 < 2 ^ 31 by decide), nI_clamp (show i < 2 ^ 31 by omega), if_pos h12, gF_co_5 _ _ h12, fs_co_5 _ _ h12, nI_1]
      refine ⟨fun e => absurd e (nI_ge h12 (by decide)), fun _ => ih (i + 1) _ (by omega) (fun k hk => by rw [up_k (by omega)]; exact hm k hk) (fun q hq => ?_)⟩
      by_cases e : q = i
      · subst e; rw [up_at]
      · rw [up_k (by omega)]; exact h5 q (by omega)
  exact ⟨_, key 12 0 mu rfl (fun _ _ => rfl) (fun q hq => absurd hq (Nat.not_lt_zero _))⟩
theorem sp_Se_forgetChord {Post : MH → Prop} {mu : Nat → Nat → Int32} {l : Nat → Int64} {i : Nat} (h12 : i < 12) (hp : Post (Hm (up (up mu (11 + 8 * i) 5 0) 1 8 0) l)) : wp_Se_forgetChord Post 1 (nI i) (Hm mu l) := by
  unfold wp_Se_forgetChord
  simp only [Option.some.injEq, Sum.inl.injEq, Sum.inr.injEq, Prod.mk.injEq, and_assoc, exists_eq_left', exists_eq_left, exists_and_left, exists_and_right, exists_eq', exists_eq, forall_eq, forall_eq', true_and, and_true, exists_const, Hm_1, gF_Se_2, gR_CO, vp_in_nI h12 (show 12 < 2 ^ 31 by decide), nI_clamp (show i < 2 ^ 31 by omega), if_pos h12, gF_co_5 _ _ h12, fs_co_5 _ _ h12, gF_Se_8, fs_Se_8]
  exact hp
theorem sp_Se_forgetRealising {Post : MH → Prop} {mu : Nat → Nat → Int32} {l : Nat → Int64} (hp : Post (Hm (up mu 1 8 0) l)) : wp_Se_forgetRealising Post 1 (Hm mu l) := by
  unfold wp_Se_forgetRealising
  simp only [Option.some.injEq, Sum.inl.injEq, Sum.inr.injEq, Prod.mk.injEq, and_assoc, exists_eq_left', exists_eq_left, exists_and_left, exists_and_right, exists_eq', exists_eq, forall_eq, forall_eq', true_and, and_true, exists_const, Hm_1, gF_Se_8, fs_Se_8]
  exact hp
theorem CC.k {t : SG} {i : Nat} {mu m : Nat → Nat → Int32} (h : CC t i mu) (e0 : m (8 + 8 * i) = mu (8 + 8 * i)) (e1 : m (9 + 8 * i) = mu (9 + 8 * i)) (e2 : m (10 + 8 * i) = mu (10 + 8 * i)) : CC t i m := by
  unfold CC CK CT CX at *
  rw [e0, e1, e2]; exact h
theorem cs_home {Post : Int32 → MH → Prop} {s : SG} {mu : Nat → Nat → Int32} {l : Nat → Int64} (hr : RC s mu) (hw : WF s) (v p : Int32) (hp : ∀ mu2, RC (o_home s v p).2 mu2 → CF mu mu2 → Post (o_home s v p).1 (Hm mu2 l)) : wp_Br_home Post 0 v p (Hm mu l) := by
  have hn := hw.n
  have G := hr.1.1
  unfold o_home at hp
  unfold wp_Br_home
  simp only [sp_Br_isVoice, sp_Br_isPitch, inI_d, bI_0]
  cases e1 : inI v 0 2
  · rw [e1] at hp; exact ⟨fun _ => hp mu hr (CF.rf mu), fun q => absurd rfl q⟩
  · refine ⟨fun q => (by cases q), fun _ => ?_⟩
    cases e2 : inI p 0 127
    · rw [e1, e2] at hp; exact ⟨fun q => absurd rfl q, fun _ => hp mu hr (CF.rf mu)⟩
    · refine ⟨fun _ => ?_, fun q => (by cases q)⟩
      rw [e1, e2] at hp
      replace hp : ∀ mu2, RC (mkS (sF s) (sn s) (sp s) (slt s) (soc s) (sal s) (std s) (slo s) (shi s) (va_up (sho s) (ix v) (ix p)) (sgv s) (ssg s)) mu2 → CF mu mu2 → Post (nI (sho s (ix v))) (Hm mu2 l) := hp
      obtain ⟨ev, h2⟩ := inI_ix (b := 2) (by decide) e1
      obtain ⟨ep, h127⟩ := inI_ix (b := 127) (by decide) e2
      generalize ix v = y at ev h2 hp
      generalize ix p = z at ep h127 hp
      subst ev ep
      have hv : y < 3 := by omega
      simp only [Option.some.injEq, Sum.inl.injEq, Sum.inr.injEq, Prod.mk.injEq, and_assoc, exists_eq_left', exists_eq_left, exists_and_left, exists_and_right, exists_eq', exists_eq, forall_eq, forall_eq', true_and, and_true, exists_const, Hm_1, gF_Br_2, gF_Br_0, gF_Ru_2, gA_ho, ms_ho, vp_in_nI hv (show 3 < 2 ^ 31 by decide), nI_clamp (show y < 2 ^ 31 by omega), (G.2.2.2 y hv).2.2, gC_Se]
      refine sp_Se_forgetRealising (hp _ ⟨⟨⟨?_, ?_, ?_, fun w hw2 => ⟨?_, ?_, ?_⟩⟩, fun i hi => ?_⟩, fun i hi => ?_, Or.inl (up_at _ _ _ _)⟩ (fun k hk => by rw [up_k (by omega), up_k (by omega)]))
      · rw [up_k (by decide), up_k (by decide)]; exact G.1
      · rw [up_k (by decide), up_k (by decide)]; exact G.2.1
      · rw [up_k (by decide), up_k (by decide)]; exact G.2.2.1
      · rw [up_k (by decide), up_k (by decide)]; exact (G.2.2.2 w hw2).1
      · rw [up_k (by decide), up_k (by decide)]; exact (G.2.2.2 w hw2).2.1
      · rw [up_k (by decide)]
        show up mu 6 y (nI z) 6 w = nI (va_up (sho s) y z w)
        by_cases e : w = y
        · subst e; rw [up_at, va_up_self]
        · rw [up_j e, va_up_ne _ _ e]; exact (G.2.2.2 w hw2).2.2
      · have hi : i < sn s := hi
        exact CC.c (s := s) (by exact ⟨rfl, rfl, rfl, rfl, fun _ => rfl⟩) (by rfl) (by exact fun _ => rfl) ((hr.1.2 i hi).k (by rw [up_k (by omega), up_k (by omega)]) (by rw [up_k (by omega), up_k (by omega)]) (by rw [up_k (by omega), up_k (by omega)]))
      · have hi : i < sn s := hi
        exact Col.c (s := s) (by exact ⟨rfl, rfl, rfl, rfl, fun _ => rfl⟩) (by rfl) (by rfl) (by exact fun _ => rfl) ((hr.2.1 i hi).k (by rw [up_k (by omega), up_k (by omega)]) (by rw [up_k (by omega), up_k (by omega)]))
theorem cs_leap {Post : Int32 → MH → Prop} {s : SG} {mu : Nat → Nat → Int32} {l : Nat → Int64} (hr : RC s mu) (hw : WF s) (x : Int32) (hp : ∀ mu2, RC (o_leap s x).2 mu2 → CF mu mu2 → Post (o_leap s x).1 (Hm mu2 l)) : wp_Br_leap Post 0 x (Hm mu l) := by
  have hn := hw.n
  have G := hr.1.1
  unfold o_leap at hp
  unfold wp_Br_leap
  simp only [sp_Br_within, t0, t24, inI_d, bI_0]
  cases e1 : inI x 0 24
  · rw [e1] at hp; exact ⟨fun q => absurd rfl q, fun _ => hp mu hr (CF.rf mu)⟩
  · refine ⟨fun _ => ?_, fun q => (by cases q)⟩
    rw [e1] at hp
    replace hp : ∀ mu2, RC (mkS (sF s) (sn s) (ix x) (slt s) (soc s) (sal s) (std s) (slo s) (shi s) (sho s) (sgv s) (ssg s)) mu2 → CF mu mu2 → Post (nI (sp s)) (Hm mu2 l) := hp
    obtain ⟨ev, h2⟩ := inI_ix (b := 24) (by decide) e1
    generalize ix x = y at ev h2 hp
    subst ev
    simp only [Option.some.injEq, Sum.inl.injEq, Sum.inr.injEq, Prod.mk.injEq, and_assoc, exists_eq_left', exists_eq_left, exists_and_left, exists_and_right, exists_eq', exists_eq, forall_eq, forall_eq', true_and, and_true, exists_const, Hm_1, gF_Br_2, gF_Br_0, gF_Ru_3, fs_Ru_3, G.2.1, gC_Se]
    refine sp_Se_forgetRealising (hp _ ⟨⟨⟨?_, ?_, ?_, fun w hw2 => ?_⟩, fun i hi => ?_⟩, fun i hi => ?_, Or.inl (up_at _ _ _ _)⟩ (fun k hk => by rw [up_k (by omega), up_k (by omega)]))
    · rw [up_k (by decide), up_k (by decide)]; exact G.1
    · rw [up_k (by decide), up_at]; rfl
    · rw [up_k (by decide), up_j (by decide)]; exact G.2.2.1
    · rw [up_k (show ¬ 4 = 1 by decide), up_k (show ¬ 4 = 3 by decide), up_k (show ¬ 5 = 1 by decide), up_k (show ¬ 5 = 3 by decide), up_k (show ¬ 6 = 1 by decide), up_k (show ¬ 6 = 3 by decide)]; exact G.2.2.2 w hw2
    · have hi : i < sn s := hi
      exact CC.c (s := s) (by exact ⟨rfl, rfl, rfl, rfl, fun _ => rfl⟩) (by rfl) (by exact fun _ => rfl) ((hr.1.2 i hi).k (by rw [up_k (by omega), up_k (by omega)]) (by rw [up_k (by omega), up_k (by omega)]) (by rw [up_k (by omega), up_k (by omega)]))
    · have hi : i < sn s := hi
      exact Col.c (s := s) (by exact ⟨rfl, rfl, rfl, rfl, fun _ => rfl⟩) (by rfl) (by rfl) (by exact fun _ => rfl) ((hr.2.1 i hi).k (by rw [up_k (by omega), up_k (by omega)]) (by rw [up_k (by omega), up_k (by omega)]))
set_option maxHeartbeats 1000000 in
theorem cs_range {Post : Int32 → MH → Prop} {s : SG} {mu : Nat → Nat → Int32} {l : Nat → Int64} (hr : RC s mu) (hw : WF s) (v a b : Int32) (hp : ∀ mu2, RC (o_range s v a b).2 mu2 → CF mu mu2 → Post (o_range s v a b).1 (Hm mu2 l)) : wp_Br_range Post 0 v a b (Hm mu l) := by
  have hn := hw.n
  have G := hr.1.1
  have pn := fun (q : Post (-1) (Hm mu l)) => q
  unfold o_range at hp
  unfold wp_Br_range
  simp only [sp_Br_isVoice, sp_Br_isPitch, sp_Br_within, t0, t24, inI_d, bI_0]
  cases e1 : inI v 0 2
  · rw [e1] at hp; exact ⟨fun _ => hp mu hr (CF.rf mu), fun q => absurd rfl q⟩
  refine ⟨fun q => (by cases q), fun _ => ?_⟩
  cases e2 : inI a 0 127
  · rw [e1, e2] at hp; exact ⟨fun _ => hp mu hr (CF.rf mu), fun q => absurd rfl q⟩
  refine ⟨fun q => (by cases q), fun _ => ?_⟩
  cases e3 : inI b 0 127
  · rw [e1, e2, e3] at hp; exact ⟨fun q => absurd rfl q, fun _ => hp mu hr (CF.rf mu)⟩
  refine ⟨fun _ => ?_, fun q => (by cases q)⟩
  obtain ⟨ev, h2⟩ := inI_ix (b := 2) (by decide) e1
  obtain ⟨ea, hA⟩ := inI_ix (b := 127) (by decide) e2
  obtain ⟨eb, hB⟩ := inI_ix (b := 127) (by decide) e3
  have ta : a.toInt = ix a := (congrArg Int32.toInt ea).trans (nI_t (by omega))
  have tb : b.toInt = ix b := (congrArg Int32.toInt eb).trans (nI_t (by omega))
  have ts : (b - a).toInt = (ix b : Int) - ix a := by
    have : (nI (ix b) - nI (ix a)).toInt = (ix b : Int) - ix a := pk_sub_toInt (by omega) (by omega)
    rw [← ea, ← eb] at this; exact this
  have cd : decide (a.toInt ≤ b.toInt ∧ b.toInt - a.toInt ≤ 24) = inI (b - a) 0 24 := by
    unfold inI
    rw [ts, ta, tb]
    exact decide_eq_decide.mpr (by omega)
  rw [e1, e2, e3, cd] at hp
  cases e4 : inI (b - a) 0 24
  · rw [e4] at hp; exact ⟨fun q => absurd rfl q, fun _ => hp mu hr (CF.rf mu)⟩
  refine ⟨fun _ => ?_, fun q => (by cases q)⟩
  rw [e4] at hp
  replace hp : ∀ mu2, RC (mkS (sF s) (sn s) (sp s) (slt s) (soc s) (sal s) (std s) (va_up (slo s) (ix v) (ix a)) (va_up (shi s) (ix v) (ix b)) (sho s) (sgv s) (ssg s)) mu2 → CF mu mu2 → Post 1 (Hm mu2 l) := hp
  clear ts ta tb cd e1 e2 e3 e4 pn
  generalize ix v = y at ev h2 hp
  generalize ix a = c at ea hA hp
  generalize ix b = d at eb hB hp
  subst ev ea eb
  have hv : y < 3 := by omega
  simp only [Option.some.injEq, Sum.inl.injEq, Sum.inr.injEq, Prod.mk.injEq, and_assoc, exists_eq_left', exists_eq_left, exists_and_left, exists_and_right, exists_eq', exists_eq, forall_eq, forall_eq', true_and, and_true, exists_const, Hm_1, gF_Br_2, gF_Br_0, gF_Ru_0, gF_Ru_1, gA_lo, ms_lo, gA_hi, ms_hi, vp_in_nI hv (show 3 < 2 ^ 31 by decide), nI_clamp (show y < 2 ^ 31 by omega), gC_Se]
  refine sp_Se_forgetAll (fun m2 f2 => hp m2 ⟨⟨⟨?_, ?_, ?_, fun w hw2 => ⟨?_, ?_, ?_⟩⟩, fun i hi => ?_⟩, fun i hi => Or.inl (f2.2.1 i (by have : i < sn s := hi; omega)), Or.inl f2.2.2⟩ (fun k hk => by rw [f2.1 k (by omega) (by omega), up_k (by omega), up_k (by omega)]))
  · rw [f2.1 _ (by decide) (by decide), up_k (by decide), up_k (by decide)]; exact G.1
  · rw [f2.1 _ (by decide) (by decide), up_k (by decide), up_k (by decide)]; exact G.2.1
  · rw [f2.1 _ (by decide) (by decide), up_k (by decide), up_k (by decide)]; exact G.2.2.1
  · rw [f2.1 _ (by decide) (by decide), up_k (by decide)]
    show up mu 4 y (nI c) 4 w = nI (va_up (slo s) y c w)
    by_cases e : w = y
    · subst e; rw [up_at, va_up_self]
    · rw [up_j e, va_up_ne _ _ e]; exact (G.2.2.2 w hw2).1
  · rw [f2.1 _ (by decide) (by decide)]
    show up (up mu 4 y (nI c)) 5 y (nI d) 5 w = nI (va_up (shi s) y d w)
    by_cases e : w = y
    · subst e; rw [up_at, va_up_self]
    · rw [up_j e, up_k (by decide), va_up_ne _ _ e]; exact (G.2.2.2 w hw2).2.1
  · rw [f2.1 _ (by decide) (by decide), up_k (by decide), up_k (by decide)]; exact (G.2.2.2 w hw2).2.2
  · have hi : i < sn s := hi
    exact CC.c (s := s) (by exact ⟨rfl, rfl, rfl, rfl, fun _ => rfl⟩) (by rfl) (by exact fun _ => rfl) ((hr.1.2 i hi).k (by rw [f2.1 _ (by omega) (by omega), up_k (by omega), up_k (by omega)]) (by rw [f2.1 _ (by omega) (by omega), up_k (by omega), up_k (by omega)]) (by rw [f2.1 _ (by omega) (by omega), up_k (by omega), up_k (by omega)]))
theorem cs_less {Post : Int32 → MH → Prop} {s : SG} {mu : Nat → Nat → Int32} {l : Nat → Int64} (hr : RC s mu) (hw : WF s) (hp : ∀ mu2, RC (o_less s).2 mu2 → CF mu mu2 → Post (o_less s).1 (Hm mu2 l)) : wp_Br_less Post 0 (Hm mu l) := by
  have hn := hw.n
  have G := hr.1.1
  unfold o_less at hp
  unfold wp_Br_less
  simp only [Option.some.injEq, Sum.inl.injEq, Sum.inr.injEq, Prod.mk.injEq, and_assoc, exists_eq_left', exists_eq_left, exists_and_left, exists_and_right, exists_eq', exists_eq, forall_eq, forall_eq', true_and, and_true, exists_const, Hm_1, gF_Br_4, fs_Br_4, G.1, n_eq0 (show sn s < 2 ^ 31 by omega)]
  refine ⟨fun e => ?_, fun e => by rw [if_pos e] at hp; exact hp mu hr (CF.rf mu)⟩
  rw [if_neg e] at hp
  simp only [n_sub1 (show 1 ≤ sn s by omega), gF_Br_0, gC_Se, up_at, Option.some.injEq, Sum.inl.injEq, Sum.inr.injEq, Prod.mk.injEq, and_assoc, exists_eq_left', exists_eq_left, exists_and_left, exists_and_right, exists_eq', exists_eq, forall_eq, forall_eq', true_and, and_true, exists_const, Hm_1]
  refine sp_Se_forgetChord (by omega) ?_
  have e1 : up (up (up mu 0 4 (nI (sn s - 1))) (11 + 8 * (sn s - 1)) 5 0) 1 8 0 0 4 = nI (sn s - 1) := by
    rw [up_k (by decide), up_k (by omega), up_at]
  simp only [Option.some.injEq, Sum.inl.injEq, Sum.inr.injEq, Prod.mk.injEq, and_assoc, exists_eq_left', exists_eq_left, exists_and_left, exists_and_right, exists_eq', exists_eq, forall_eq, forall_eq', true_and, and_true, exists_const, Hm_1, gF_Br_4, e1]
  have ky : ∀ k, ¬ k = 0 → ¬ k = 1 → ¬ k = 11 + 8 * (sn s - 1) → up (up (up mu 0 4 (nI (sn s - 1))) (11 + 8 * (sn s - 1)) 5 0) 1 8 0 k = mu k := fun k h1 h2 h3 => by rw [up_k h2, up_k h3, up_k h1]
  refine hp _ ⟨⟨⟨e1, ?_, ?_, fun w hw2 => ?_⟩, fun i hi => ?_⟩, fun i hi => ?_, Or.inl (up_at _ _ _ _)⟩ (fun k hk => ky k (by omega) (by omega) (by omega))
  · rw [ky 3 (by decide) (by decide) (by omega)]; exact G.2.1
  · rw [ky 3 (by decide) (by decide) (by omega)]; exact G.2.2.1
  · rw [ky 4 (by decide) (by decide) (by omega), ky 5 (by decide) (by decide) (by omega), ky 6 (by decide) (by decide) (by omega)]; exact G.2.2.2 w hw2
  · have hi : i < sn s - 1 := hi
    exact CC.c (s := s) (by exact ⟨rfl, rfl, rfl, rfl, fun _ => rfl⟩) (by rfl) (by exact fun _ => rfl) ((hr.1.2 i (by omega)).k (ky _ (by omega) (by omega) (by omega)) (ky _ (by omega) (by omega) (by omega)) (ky _ (by omega) (by omega) (by omega)))
  · have hi : i < sn s - 1 := hi
    exact Col.c (s := s) (by exact ⟨rfl, rfl, rfl, rfl, fun _ => rfl⟩) (by rfl) (by rfl) (by exact fun _ => rfl) ((hr.2.1 i (by omega)).k (ky _ (by omega) (by omega) (by omega)) (ky _ (by omega) (by omega) (by omega)))
