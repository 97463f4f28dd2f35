theorem CKT.c {s t : SG} {i : Nat} (h : Sam s t i) {mu : Nat → Nat → Int32} (h1 : CK s i mu) (h2 : CT s i mu) : CK t i mu ∧ CT t i mu := by
  unfold CK CT at *
  rw [h.2.1, h.e_bN, h.e_tl] at h1
  rw [h.e_isW, h.e_tm, h.e_bN, h.e_sm, h.e_fm] at h2
  exact ⟨⟨h1.1, h1.2.1, h1.2.2.1, fun f hf => by rw [← h.2.2.2.2 f]; exact h1.2.2.2 f hf⟩, h2⟩
theorem RC_loc {s t : SG} {mu m : Nat → Nat → Int32} {i : Nat} (hnt : sn t ≤ 12) (hr : RC s mu) (hG : CG t m) (hi : CC t i m) (h5 : m (11 + 8 * i) 5 = 0) (h8 : m 1 8 = 0) (hk : ∀ q, q < sn t → ¬ q = i → q < sn s ∧ Sam s t q ∧ ssg s q = ssg t q ∧ ∀ v, sgv s q v = sgv t q v) (hl : slo s = slo t) (hh : shi s = shi t) (hm : ∀ q, q < 12 → ¬ q = i → ∀ k, 8 + 8 * q ≤ k → k ≤ 12 + 8 * q → m k = mu k) : RC t m := by
  refine ⟨⟨hG, fun q hq => ?_⟩, fun q hq => ?_, Or.inl h8⟩
  · by_cases e : q = i
    · subst e; exact hi
    · obtain ⟨a, b, c, d⟩ := hk q hq e
      exact CC.c b c d ((hr.1.2 q a).k (hm q (by omega) e _ (by omega) (by omega)) (hm q (by omega) e _ (by omega) (by omega)) (hm q (by omega) e _ (by omega) (by omega)))
  · by_cases e : q = i
    · subst e; exact Or.inl h5
    · obtain ⟨a, b, c, d⟩ := hk q hq e
      exact Col.c b hl hh d ((hr.2.1 q a).k (hm q (by omega) e _ (by omega) (by omega)) (hm q (by omega) e _ (by omega) (by omega)))
theorem CG.k {t : SG} {mu m : Nat → Nat → Int32} (h : CG t mu) (e0 : m 0 = mu 0) (e : ∀ k, 3 ≤ k → k ≤ 6 → m k = mu k) : CG t m := by
  unfold CG at *
  rw [e0, e 3 (by decide) (by decide), e 4 (by decide) (by decide), e 5 (by decide) (by decide), e 6 (by decide) (by decide)]
  exact h
theorem tun_k {i : Nat} {mu m : Nat → Nat → Int32} (h : Tun i mu m) {k : Nat} (hk : ¬ k = 8 + 8 * i) : m k = mu k := funext (fun j => h k j (Or.inl hk))
theorem CK.tun {t : SG} {i : Nat} {mu m : Nat → Nat → Int32} (h : CK t i mu) (hT : Tun i mu m) : CK t i m := by
  unfold CK at *
  rw [hT _ 0 (Or.inr (by decide)), hT _ 1 (Or.inr (by decide)), hT _ 2 (Or.inr (by decide)), tun_k hT (k := 9 + 8 * i) (by omega)]
  exact h
theorem CX.tun {t : SG} {i : Nat} {mu m : Nat → Nat → Int32} (h : CX t i mu) (hT : Tun i mu m) : CX t i m := by
  unfold CX at *
  rw [hT _ 6 (Or.inr (by decide)), tun_k hT (k := 10 + 8 * i) (by omega)]
  exact h
set_option maxHeartbeats 1000000 in
theorem cs_given {Post : Int32 → MH → Prop} {s : SG} {mu : Nat → Nat → Int32} {l : Nat → Int64} (hr : RC s mu) (hw : WF s) (i v p : Int32) (hp : ∀ mu2, RC (o_given s i v p).2 mu2 → CF mu mu2 → Post (o_given s i v p).1 (Hm mu2 l)) : wp_Br_given Post 0 i v p (Hm mu l) := by
  have hn := hw.n
  have G := hr.1.1
  unfold o_given at hp
  unfold wp_Br_given
  simp only [gC_Br, true_and, sp_Br_hasChord _ hr.1.1 hw, sp_Br_isVoice, sp_Br_isPitch, inI_d, bI_0]
  cases e1 : hasC s i
  · rw [e1] at hp; exact ⟨fun _ => hp mu hr (CF.rf mu), fun q => absurd rfl q⟩
  refine ⟨fun q => (by cases q), fun _ => ?_⟩
  cases e2 : inI v 0 2
  · rw [e1, e2] at hp; exact ⟨fun _ => hp mu hr (CF.rf mu), fun q => absurd rfl q⟩
  refine ⟨fun q => (by cases q), fun _ => ?_⟩
  rw [e1, e2] at hp
  have go : inI p (-1) 127 = true → wp_Br_given_29 Post 0 i v p (Hm mu l) := by
    intro e3
    rw [e3] at hp
    replace hp : ∀ mu2, RC (mkS (sF s) (sn s) (sp s) (slt s) (soc s) (sal s) (std s) (slo s) (shi s) (sho s) (va_up (sgv s) (ix i) (va_up (sgv s (ix i)) (ix v) p.toInt)) (ssg s)) mu2 → CF mu mu2 → Post (if 0 ≤ sgv s (ix i) (ix v) then iI (sgv s (ix i) (ix v)) else -2) (Hm mu2 l) := hp
    obtain ⟨ei, hi⟩ := hasC_ix hw e1
    obtain ⟨ev, h2⟩ := inI_ix (b := 2) (by decide) e2
    generalize ix i = c at ei hi hp
    generalize ix v = y at ev h2 hp
    subst ei ev
    have h12 : c < 12 := by omega
    have hv : y < 3 := by omega
    have C := hr.1.2 c hi
    have rg := hw.2.2.2.2.2.2.1 c hi y hv
    have m1 : iI (sgv s c y) = -1 ↔ sgv s c y = -1 := iI_eq (b := -1) (by omega) (by omega) (by omega) (by omega)
    unfold wp_Br_given_29
    simp only [Option.some.injEq, Sum.inl.injEq, Sum.inr.injEq, Prod.mk.injEq, and_assoc, exists_eq_left', exists_eq_left, exists_and_left, exists_and_right, exists_eq', exists_eq, forall_eq, forall_eq', true_and, and_true, exists_const, Hm_1, gF_Br_1, gF_Br_0, gR_CA, vp_in_nI h12 (show 12 < 2 ^ 31 by decide), nI_clamp (show c < 2 ^ 31 by omega), if_pos h12, gF_ch_5 _ _ h12, gA_fx _ _ h12, ms_fx _ _ h12, vp_in_nI hv (show 3 < 2 ^ 31 by decide), nI_clamp (show y < 2 ^ 31 by omega), C.2.2.2 y hv, gC_Se]
    refine sp_Se_forgetChord h12 ?_
    have ky : ∀ k, ¬ k = 1 → ¬ k = 10 + 8 * c → ¬ k = 11 + 8 * c → up (up (up mu (10 + 8 * c) y p) (11 + 8 * c) 5 0) 1 8 0 k = mu k := fun k a1 a2 a3 => by rw [up_k a1, up_k a3, up_k a2]
    have fin := hp (up (up (up mu (10 + 8 * c) y p) (11 + 8 * c) 5 0) 1 8 0) ?_ (fun k hk => ky k (by omega) (by omega) (by omega))
    · rw [m1]
      refine ⟨fun z => ?_, fun z => ?_⟩
      · rw [if_pos (by omega)] at fin; exact fin
      · rw [if_neg (by omega)] at fin; exact fin
    · refine RC_loc (i := c) hn hr (CG.k (show CG _ mu from G) (ky 0 (by omega) (by omega) (by omega)) (fun k _ _ => ky k (by omega) (by omega) (by omega))) ?_ (by rw [up_k (by omega), up_at]) (up_at _ _ _ _) (fun q hq e => ⟨hq, ⟨rfl, rfl, rfl, rfl, fun _ => rfl⟩, rfl, fun w => ?_⟩) rfl rfl (fun q hq e k k1 k2 => ky k (by omega) (by omega) (by omega))
      · have kt := CKT.c (s := s) (t := mkS (sF s) (sn s) (sp s) (slt s) (soc s) (sal s) (std s) (slo s) (shi s) (sho s) (va_up (sgv s) c (va_up (sgv s c) y p.toInt)) (ssg s)) (i := c) ⟨rfl, rfl, rfl, rfl, fun _ => rfl⟩ C.1 C.2.1
        unfold CC CK CT CX at *
        rw [ky (8 + 8 * c) (by omega) (by omega) (by omega), ky (9 + 8 * c) (by omega) (by omega) (by omega)]
        refine ⟨kt.1, kt.2, C.2.2.1, fun w hw2 => ?_⟩
        rw [up_k (by omega), up_k (by omega)]
        show up mu (10 + 8 * c) y p (10 + 8 * c) w = iI (va_up (sgv s) c (va_up (sgv s c) y p.toInt) c w)
        rw [va_up_self]
        by_cases e : w = y
        · subst e; rw [up_at, va_up_self]; exact (iI_of p).symm
        · rw [up_j e, va_up_ne _ _ e]; exact C.2.2.2 w hw2
      · show sgv s q w = va_up (sgv s) c (va_up (sgv s c) y p.toInt) q w
        rw [va_up_ne _ _ e]
  have bad : inI p (-1) 127 = false → Post (-1) (Hm mu l) := by
    intro e3
    rw [e3] at hp
    exact hp mu hr (CF.rf mu)
  refine ⟨fun e => go (by rw [e]; decide), fun e => ⟨fun z => go ?_, fun z => bad ?_⟩⟩
  · have z : inI p 0 127 = true := by simpa using z
    unfold inI at *
    simp only [decide_eq_true_eq] at *
    omega
  · have ne : ¬ p.toInt = -1 := fun q => e ((i_eq p (-1)).mpr q)
    unfold inI at *
    simp only [decide_eq_false_iff_not] at *
    omega
theorem g_RsT (s : SG) (g : Nat → Option (Nat × Nat × Nat)) (q k : Nat) : RsT (setSg s g) q k = RsT s q k := by
  unfold RsT
  rw [g_Rs]
  rfl
theorem g_b0 (s : SG) (g : Nat → Option (Nat × Nat × Nat)) : b0 (setSg s g) = b0 s := by
  funext k
  unfold b0
  rw [g_RsT, g_os, g_vv]
  rfl
theorem g_bM (s : SG) (g : Nat → Option (Nat × Nat × Nat)) (i : Nat) (y : Nat → Nat) : bM (setSg s g) i y = bM s i y := by
  funext k
  unfold bM
  rw [g_RsT, g_pr, g_vv]
theorem g_ch (s : SG) (g : Nat → Option (Nat × Nat × Nat)) : ∀ i, ch (setSg s g) i = ch s i
  | 0 => by
    show (bst (b0 (setSg s g)) (sz (setSg s g) 0)).2 = (bst (b0 s) (sz s 0)).2
    rw [g_b0, g_sz]
  | i + 1 => by
    rw [ch_s, ch_s, g_ch s g i, g_bM, g_vv, g_sz]
theorem Stt_sg {s : SG} (g : Nat → Option (Nat × Nat × Nat)) {m : Nat → Nat → Int32} (h : Stt s m) : Stt (setSg s g) m := by
  unfold Stt at *
  rw [show sn (setSg s g) = sn s from rfl, g_fl, g_Rw, g_sz, g_b0, g_sz]
  refine ⟨h.1, h.2.1, fun z => ⟨(h.2.2 z).1, fun i hi => ?_⟩⟩
  rw [g_ch, g_vv]
  exact (h.2.2 z).2 i hi
set_option maxHeartbeats 1000000 in
theorem cs_sing {Post : Int32 → MH → Prop} {s : SG} {mu : Nat → Nat → Int32} {l : Nat → Int64} (hr : RC s mu) (hw : WF s) (i a b c : Int32) (hp : ∀ mu2, RC (o_sing s i a b c).2 mu2 → CF mu mu2 → Post (o_sing s i a b c).1 (Hm mu2 l)) : wp_Br_sing Post 0 i a b c (Hm mu l) := by
  have hn := hw.n
  have G := hr.1.1
  unfold o_sing at hp
  unfold wp_Br_sing
  simp only [gC_Br, true_and, sp_Br_hasChord _ hr.1.1 hw, sp_Br_isPitch, inI_d, bI_0]
  cases e1 : hasC s i
  · rw [e1] at hp; exact ⟨fun _ => hp mu hr (CF.rf mu), fun q => absurd rfl q⟩
  refine ⟨fun q => (by cases q), fun _ => ?_⟩
  cases e2 : inI a 0 127
  · rw [e1, e2] at hp; exact ⟨fun _ => hp mu hr (CF.rf mu), fun q => absurd rfl q⟩
  refine ⟨fun q => (by cases q), fun _ => ?_⟩
  cases e3 : inI b 0 127
  · rw [e1, e2, e3] at hp; exact ⟨fun _ => hp mu hr (CF.rf mu), fun q => absurd rfl q⟩
  refine ⟨fun q => (by cases q), fun _ => ?_⟩
  cases e4 : inI c 0 127
  · rw [e1, e2, e3, e4] at hp; exact ⟨fun q => absurd rfl q, fun _ => hp mu hr (CF.rf mu)⟩
  refine ⟨fun _ => ?_, fun q => (by cases q)⟩
  rw [e1, e2, e3, e4] at hp
  replace hp : ∀ mu2, RC (setSg s (va_up (ssg s) (ix i) (some (ix a, ix b, ix c)))) mu2 → CF mu mu2 → Post 1 (Hm mu2 l) := hp
  obtain ⟨ei, hi⟩ := hasC_ix hw e1
  obtain ⟨ea, hA⟩ := inI_ix (b := 127) (by decide) e2
  obtain ⟨eb, hB⟩ := inI_ix (b := 127) (by decide) e3
  obtain ⟨ec, hC⟩ := inI_ix (b := 127) (by decide) e4
  clear e1 e2 e3 e4
  generalize ix i = q at ei hi hp
  generalize ix a = x at ea hA hp
  generalize ix b = y at eb hB hp
  generalize ix c = z at ec hC hp
  subst ei ea eb ec
  have h12 : q < 12 := by omega
  simp only [Option.some.injEq, Sum.inl.injEq, Sum.inr.injEq, Prod.mk.injEq, and_assoc, exists_eq_left', exists_eq_left, exists_and_left, exists_and_right, exists_eq', exists_eq, forall_eq, forall_eq', true_and, and_true, exists_const, Hm_1, gF_Br_1, gR_CA, vp_in_nI h12 (show 12 < 2 ^ 31 by decide), nI_clamp (show q < 2 ^ 31 by omega), if_pos h12, sp_Br_pack _ hA hB hC, gF_ch_6 _ _ h12, fs_ch_6 _ _ h12]
  have ky : ∀ k, ¬ k = 8 + 8 * q → up mu (8 + 8 * q) 6 (nI (pkN x y z)) k = mu k := fun k a1 => up_k a1
  refine hp _ ⟨⟨CG.k (show CG (setSg s _) mu from G) (ky 0 (by omega)) (fun k _ _ => ky k (by omega)), fun j hj => ?_⟩, fun j hj => ?_, ?_⟩ (fun k hk => ky k (by omega))
  · have hj : j < sn s := hj
    by_cases e : j = q
    · subst e
      have C := hr.1.2 j hj
      have kt := CKT.c (s := s) (t := setSg s (va_up (ssg s) j (some (x, y, z)))) (i := j) ⟨rfl, rfl, rfl, rfl, fun _ => rfl⟩ C.1 C.2.1
      unfold CC CK CT CX at *
      rw [ky (9 + 8 * j) (by omega), ky (10 + 8 * j) (by omega)]
      simp only [up_j (show ¬ 0 = 6 by decide), up_j (show ¬ 1 = 6 by decide), up_j (show ¬ 2 = 6 by decide), up_j (show ¬ 3 = 6 by decide), up_j (show ¬ 7 = 6 by decide), up_j (show ¬ 8 = 6 by decide), up_j (show ¬ 9 = 6 by decide), up_j (show ¬ 10 = 6 by decide), up_at]
      refine ⟨kt.1, kt.2, ?_, C.2.2.2⟩
      show nI (pkN x y z) = hnd (va_up (ssg s) j (some (x, y, z)) j)
      rw [va_up_self]
      rfl
    · refine CC.c (s := s) (by exact ⟨rfl, rfl, rfl, rfl, fun _ => rfl⟩) ?_ (by exact fun _ => rfl) ((hr.1.2 j hj).k (ky _ (by omega)) (ky _ (by omega)) (ky _ (by omega)))
      show ssg s j = va_up (ssg s) q (some (x, y, z)) j
      rw [va_up_ne _ _ e]
  · have hj : j < sn s := hj
    exact Col.c (s := s) (by exact ⟨rfl, rfl, rfl, rfl, fun _ => rfl⟩) (by rfl) (by rfl) (by exact fun _ => rfl) ((hr.2.1 j hj).k (ky _ (by omega)) (ky _ (by omega)))
  · have h3 := hr.2.2
    rw [ky 1 (by omega)]
    rcases h3 with h | h
    · exact Or.inl h
    · refine Or.inr ⟨h.1, ?_⟩
      have st := Stt_sg (va_up (ssg s) q (some (x, y, z))) h.2
      unfold Stt at *
      rw [ky 1 (by omega), ky 108 (by omega)]
      exact st
theorem mk8_0 {p : Nat → Bool} (h : ∀ f, p f = false) : mk8 p = 0 := by
  unfold mk8
  rw [h, h, h, h, h, h, h, h]
  rfl
theorem cnt8_tl (t : SG) (i : Nat) : sumTo (fun k => if tl t i (k + 2) then 1 else 0) 8 = cnt8 (tl t i) := by
  unfold cnt8
  simp only [sumTo, Nat.zero_add]
set_option maxHeartbeats 1000000 in
theorem cs_plain {Post : Int32 → MH → Prop} {s : SG} {mu : Nat → Nat → Int32} {l : Nat → Int64} (hr : RC s mu) (hw : WF s) (x : Int32) (hp : ∀ mu2, RC (o_plain s x).2 mu2 → CF mu mu2 → Post (o_plain s x).1 (Hm mu2 l)) : wp_Br_plain Post 0 x (Hm mu l) := by
  have hn := hw.n
  have G := hr.1.1
  have hwt := wf_plain hw x
  unfold o_plain at hp hwt
  unfold wp_Br_plain
  simp only [gC_Br, true_and, sp_Br_hasChord _ hr.1.1 hw, bI_0]
  cases e1 : hasC s x
  · rw [e1] at hp; exact ⟨fun q => absurd rfl q, fun _ => hp mu hr (CF.rf mu)⟩
  refine ⟨fun _ => ?_, fun q => (by cases q)⟩
  rw [e1] at hp hwt
  obtain ⟨ex, hi⟩ := hasC_ix hw e1
  replace hp : ∀ mu2, RC (mkS (sF s) (sn s) (sp s) (slt s) (soc s) (sal s) (va_up (std s) (ix x) (fun _ => 0)) (slo s) (shi s) (sho s) (sgv s) (ssg s)) mu2 → CF mu mu2 → Post (nI (sumTo (fun k => if tl s (ix x) (k + 2) then 1 else 0) 8)) (Hm mu2 l) := hp
  replace hwt : WF (mkS (sF s) (sn s) (sp s) (slt s) (soc s) (sal s) (va_up (std s) (ix x) (fun _ => 0)) (slo s) (shi s) (sho s) (sgv s) (ssg s)) := hwt
  generalize ix x = i at ex hi hp hwt
  subst ex
  rw [cnt8_tl] at hp
  have h12 : i < 12 := by omega
  have C := hr.1.2 i hi
  have S0 : ∀ f, std (mkS (sF s) (sn s) (sp s) (slt s) (soc s) (sal s) (va_up (std s) i (fun _ => 0)) (slo s) (shi s) (sho s) (sgv s) (ssg s)) i f = 0 := fun f => by
    show va_up (std s) i (fun _ => 0) i f = 0
    rw [va_up_self]
  have SN : ∀ q, ¬ q = i → ∀ f, std s q f = std (mkS (sF s) (sn s) (sp s) (slt s) (soc s) (sal s) (va_up (std s) i (fun _ => 0)) (slo s) (shi s) (sho s) (sgv s) (ssg s)) q f := fun q e f => by
    show std s q f = va_up (std s) i (fun _ => 0) q f
    rw [va_up_ne _ _ e]
  have hbN : bN (mkS (sF s) (sn s) (sp s) (slt s) (soc s) (sal s) (va_up (std s) i (fun _ => 0)) (slo s) (shi s) (sho s) (sgv s) (ssg s)) i = bN s i := rfl
  have P0 : sF (mkS (sF s) (sn s) (sp s) (slt s) (soc s) (sal s) (va_up (std s) i (fun _ => 0)) (slo s) (shi s) (sho s) (sgv s) (ssg s)) = sF s := rfl
  have gG : CG (mkS (sF s) (sn s) (sp s) (slt s) (soc s) (sal s) (va_up (std s) i (fun _ => 0)) (slo s) (shi s) (sho s) (sgv s) (ssg s)) mu := G
  have gX : CX (mkS (sF s) (sn s) (sp s) (slt s) (soc s) (sal s) (va_up (std s) i (fun _ => 0)) (slo s) (shi s) (sho s) (sgv s) (ssg s)) i mu := C.2.2
  have gl : slt (mkS (sF s) (sn s) (sp s) (slt s) (soc s) (sal s) (va_up (std s) i (fun _ => 0)) (slo s) (shi s) (sho s) (sgv s) (ssg s)) i = slt s i := rfl
  have loc : ∀ q, ¬ q = i → Sam s (mkS (sF s) (sn s) (sp s) (slt s) (soc s) (sal s) (va_up (std s) i (fun _ => 0)) (slo s) (shi s) (sho s) (sgv s) (ssg s)) q := fun q e => ⟨rfl, rfl, rfl, rfl, SN q e⟩
  have loc2 : ∀ q, q < sn (mkS (sF s) (sn s) (sp s) (slt s) (soc s) (sal s) (va_up (std s) i (fun _ => 0)) (slo s) (shi s) (sho s) (sgv s) (ssg s)) → ¬ q = i → q < sn s ∧ Sam s (mkS (sF s) (sn s) (sp s) (slt s) (soc s) (sal s) (va_up (std s) i (fun _ => 0)) (slo s) (shi s) (sho s) (sgv s) (ssg s)) q ∧ ssg s q = ssg (mkS (sF s) (sn s) (sp s) (slt s) (soc s) (sal s) (va_up (std s) i (fun _ => 0)) (slo s) (shi s) (sho s) (sgv s) (ssg s)) q ∧ ∀ v, sgv s q v = sgv (mkS (sF s) (sn s) (sp s) (slt s) (soc s) (sal s) (va_up (std s) i (fun _ => 0)) (slo s) (shi s) (sho s) (sgv s) (ssg s)) q v := fun q hq e => ⟨hq, loc q e, rfl, fun _ => rfl⟩
  have hlo : slo s = slo (mkS (sF s) (sn s) (sp s) (slt s) (soc s) (sal s) (va_up (std s) i (fun _ => 0)) (slo s) (shi s) (sho s) (sgv s) (ssg s)) := rfl
  have hhi : shi s = shi (mkS (sF s) (sn s) (sp s) (slt s) (soc s) (sal s) (va_up (std s) i (fun _ => 0)) (slo s) (shi s) (sho s) (sgv s) (ssg s)) := rfl
  have hit : i < sn (mkS (sF s) (sn s) (sp s) (slt s) (soc s) (sal s) (va_up (std s) i (fun _ => 0)) (slo s) (shi s) (sho s) (sgv s) (ssg s)) := hi
  generalize mkS (sF s) (sn s) (sp s) (slt s) (soc s) (sal s) (va_up (std s) i (fun _ => 0)) (slo s) (shi s) (sho s) (sgv s) (ssg s) = t at *
  have htl : ∀ f, tl t i f = false := fun f => by unfold tl; rw [S0]; rfl
  simp only [Option.some.injEq, Sum.inl.injEq, Sum.inr.injEq, Prod.mk.injEq, and_assoc, exists_eq_left', exists_eq_left, exists_and_left, exists_and_right, exists_eq', exists_eq, forall_eq, forall_eq', true_and, and_true, exists_const, Hm_1, gF_Br_1, gR_CA, vp_in_nI h12 (show 12 < 2 ^ 31 by decide), nI_clamp (show i < 2 ^ 31 by omega), if_pos h12, gF_ch_2 _ _ h12, C.1.2.2.1, sp_In_bitCount, gC_ch _ _ h12]
  refine sp_Ch_untell h12 ?_
  have f1 : ∀ k, ¬ k = 8 + 8 * i → ¬ k = 9 + 8 * i → fill (up mu (8 + 8 * i) 2 0) (9 + 8 * i) 0 10 0 k = mu k := fun k a1 a2 => by rw [fill_k a2, up_k a1]
  have K1 : CK t i (fill (up mu (8 + 8 * i) 2 0) (9 + 8 * i) 0 10 0) := by
    refine ⟨?_, ?_, ?_, fun f hf => ?_⟩
    · rw [fill_k (by omega), up_j (by decide), gl]; exact C.1.1
    · rw [fill_k (by omega), up_j (by decide), hbN]; exact C.1.2.1
    · rw [fill_k (by omega), up_at, mk8_0 htl]
    · rw [fill_in (by omega), S0]; rfl
  have X1 : CX t i (fill (up mu (8 + 8 * i) 2 0) (9 + 8 * i) 0 10 0) := by
    unfold CX at *
    rw [fill_k (show ¬ 8 + 8 * i = 9 + 8 * i by omega), up_j (by decide), f1 (10 + 8 * i) (by omega) (by omega)]
    exact gX
  generalize fill (up mu (8 + 8 * i) 2 0) (9 + 8 * i) 0 10 0 = m1 at f1 K1 X1 ⊢
  have e34 : m1 3 4 = iI (sF t) := by rw [f1 3 (by omega) (by omega)]; exact gG.2.2.1
  simp only [Option.some.injEq, Sum.inl.injEq, Sum.inr.injEq, Prod.mk.injEq, and_assoc, exists_eq_left', exists_eq_left, exists_and_left, exists_and_right, exists_eq', exists_eq, forall_eq, forall_eq', true_and, and_true, exists_const, Hm_1, gF_Br_1, gF_Br_2, gR_CA, vp_in_nI h12 (show 12 < 2 ^ 31 by decide), nI_clamp (show i < 2 ^ 31 by omega), if_pos h12, gF_Ru_4, e34, gC_ch _ _ h12]
  refine sp_Ch_tune hwt hit K1 (fun m2 u2 c2 => ?_)
  simp only [Option.some.injEq, Sum.inl.injEq, Sum.inr.injEq, Prod.mk.injEq, and_assoc, exists_eq_left', exists_eq_left, exists_and_left, exists_and_right, exists_eq', exists_eq, forall_eq, forall_eq', true_and, and_true, exists_const, Hm_1, gF_Br_0, gC_Se]
  refine sp_Se_forgetChord h12 (hp _ ?_ ?_)
  · have ky : ∀ k, ¬ k = 1 → ¬ k = 8 + 8 * i → ¬ k = 9 + 8 * i → ¬ k = 11 + 8 * i → up (up m2 (11 + 8 * i) 5 0) 1 8 0 k = mu k := fun k a1 a2 a3 a4 => by rw [up_k a1, up_k a4, tun_k u2 a2, f1 k a2 a3]
    have cc : CC t i (up (up m2 (11 + 8 * i) 5 0) 1 8 0) := CC.k ⟨K1.tun u2, c2, X1.tun u2⟩ (by rw [up_k (by omega), up_k (by omega)]) (by rw [up_k (by omega), up_k (by omega)]) (by rw [up_k (by omega), up_k (by omega)])
    exact RC_loc (i := i) hwt.n hr (gG.k (ky 0 (by omega) (by omega) (by omega) (by omega)) (fun k _ _ => ky k (by omega) (by omega) (by omega) (by omega))) cc (by rw [up_k (by omega), up_at]) (up_at _ _ _ _) loc2 hlo hhi (fun q hq e k k1 k2 => ky k (by omega) (by omega) (by omega) (by omega))
  · intro k hk
    rw [up_k (by omega), up_k (by omega), tun_k u2 (by omega), f1 k (by omega) (by omega)]
