theorem bit_d (f : Nat) : (1 : Int32) <<< (nI f &&& 31) = bit f := rfl
set_option maxHeartbeats 1000000 in
theorem cs_figure {Post : Int32 → MH → Prop} {s : SG} {mu : Nat → Nat → Int32} {l : Nat → Int64} (hr : RC s mu) (hw : WF s) (x y z : Int32) (hp : ∀ mu2, RC (o_figure s x y z).2 mu2 → CF mu mu2 → Post (o_figure s x y z).1 (Hm mu2 l)) : wp_Br_figure Post 0 x y z (Hm mu l) := by
  have hn := hw.n
  have G := hr.1.1
  unfold o_figure at hp
  unfold wp_Br_figure
  simp only [gC_Br, true_and, sp_Br_hasChord _ hr.1.1 hw, sp_Br_within, t0, t2, t3, t9, inI_d, bI_0]
  cases e1 : hasC s x
  · rw [e1] at hp; exact ⟨fun _ => hp mu hr (CF.rf mu), fun q => absurd rfl q⟩
  refine ⟨fun q => (by cases q), fun _ => ?_⟩
  cases e2 : inI y 2 9
  · rw [e1, e2] at hp; exact ⟨fun _ => hp mu hr (CF.rf mu), fun q => absurd rfl q⟩
  refine ⟨fun q => (by cases q), fun _ => ?_⟩
  cases e3 : inI z 0 3
  · rw [e1, e2, e3] at hp; exact ⟨fun q => absurd rfl q, fun _ => hp mu hr (CF.rf mu)⟩
  refine ⟨fun _ => ?_, fun q => (by cases q)⟩
  rw [e1, e2, e3] at hp
  replace hp : ∀ mu2, RC (if cntW (setTd s (ix x) (ix y) (ix z + 1)) (ix x) 8 ≤ 3 then (nI (cntW (setTd s (ix x) (ix y) (ix z + 1)) (ix x) 8), setTd s (ix x) (ix y) (ix z + 1)) else (-3, s)).2 mu2 → CF mu mu2 → Post (if cntW (setTd s (ix x) (ix y) (ix z + 1)) (ix x) 8 ≤ 3 then (nI (cntW (setTd s (ix x) (ix y) (ix z + 1)) (ix x) 8), setTd s (ix x) (ix y) (ix z + 1)) else (-3, s)).1 (Hm mu2 l) := hp
  obtain ⟨ex, hi⟩ := hasC_ix hw e1
  obtain ⟨ey, hf, hf2⟩ : y = nI (ix y) ∧ ix y ≤ 9 ∧ 2 ≤ ix y := by
    unfold inI at e2
    simp only [decide_eq_true_eq] at e2
    obtain ⟨a, b⟩ := ix_of (n := 10) (x := y) (by omega) (by decide) (by omega)
    have : y.toInt = ix y := (congrArg Int32.toInt a).trans (nI_t (by omega))
    exact ⟨a, by omega, by omega⟩
  obtain ⟨ez, hg⟩ := inI_ix (b := 3) (by decide) e3
  clear e1 e2 e3
  generalize ix x = i at ex hi hp
  generalize ix y = f at ey hf hf2 hp
  generalize ix z = g at ez hg hp
  subst ex ey ez
  have h12 : i < 12 := by omega
  have C := hr.1.2 i hi
  have SI : ∀ w, std (setTd s i f (g + 1)) i w = va_up (std s i) f (g + 1) w := fun w => by
    show va_up (std s) i (va_up (std s i) f (g + 1)) i w = _
    rw [va_up_self]
  have SN : ∀ q, ¬ q = i → ∀ w, std s q w = std (setTd s i f (g + 1)) q w := fun q e w => by
    show std s q w = va_up (std s) i (va_up (std s i) f (g + 1)) q w
    rw [va_up_ne _ _ e]
  have hwt := fun hc => wf_td hw hi hf2 (show g + 1 ≤ 4 by omega) hc
  have hbN : bN (setTd s i f (g + 1)) i = bN s i := rfl
  have gl : slt (setTd s i f (g + 1)) i = slt s i := rfl
  have gG : CG (setTd s i f (g + 1)) mu := G
  have gX : CX (setTd s i f (g + 1)) i mu := C.2.2
  have loc2 : ∀ q, q < sn (setTd s i f (g + 1)) → ¬ q = i → q < sn s ∧ Sam s (setTd s i f (g + 1)) q ∧ ssg s q = ssg (setTd s i f (g + 1)) q ∧ ∀ v, sgv s q v = sgv (setTd s i f (g + 1)) q v := fun q hq e => ⟨hq, ⟨rfl, rfl, rfl, rfl, SN q e⟩, rfl, fun _ => rfl⟩
  have hlo : slo s = slo (setTd s i f (g + 1)) := rfl
  have hhi : shi s = shi (setTd s i f (g + 1)) := rfl
  have hit : i < sn (setTd s i f (g + 1)) := hi
  generalize setTd s i f (g + 1) = t at *
  have tf : tl t i f = true := by unfold tl; rw [SI, va_up_self]; simp
  have tn : ∀ w, ¬ w = f → tl t i w = tl s i w := fun w e => by unfold tl; rw [SI, va_up_ne _ _ e]
  have or8 : mk8 (tl s i) ||| bit f = mk8 (tl t i) := mk8_or _ _ f hf2 (by omega) tf tn
  have cl := cntW_le t i 8
  have le3 : nI (cntW t i 8) ≤ 3 ↔ cntW t i 8 ≤ 3 := nI_leI (b := 3) (by omega) (by decide)
  simp only [Option.some.injEq, Sum.inl.injEq, Sum.inr.injEq, Prod.mk.injEq, and_assoc, exists_eq_left', exists_eq_left, exists_and_left, exists_and_right, exists_eq', exists_eq, forall_eq, forall_eq', true_and, and_true, exists_const, Hm_1, gF_Br_1, gR_CA, vp_in_nI h12 (show 12 < 2 ^ 31 by decide), nI_clamp (show i < 2 ^ 31 by omega), if_pos h12, gF_ch_2 _ _ h12, C.1.2.2.1, bit_d, or8, sp_Ch_complete, wk_tl, sp_In_bitCount, cnt8_W, le3, gC_ch _ _ h12]
  refine ⟨fun c3 => ?_, fun c3 => by rw [if_neg c3] at hp; exact hp mu hr (CF.rf mu)⟩
  rw [if_pos c3] at hp
  replace hp : ∀ mu2, RC t mu2 → CF mu mu2 → Post (nI (cntW t i 8)) (Hm mu2 l) := hp
  refine sp_Ch_tell h12 (by omega) ?_
  rw [C.1.2.2.1, or8]
  have f1 : ∀ k, ¬ k = 8 + 8 * i → ¬ k = 9 + 8 * i → up (up mu (8 + 8 * i) 2 (mk8 (tl t i))) (9 + 8 * i) f (nI g) k = mu k := fun k a1 a2 => by rw [up_k a2, up_k a1]
  have K1 : CK t i (up (up mu (8 + 8 * i) 2 (mk8 (tl t i))) (9 + 8 * i) f (nI g)) := by
    refine ⟨?_, ?_, ?_, fun w hw2 => ?_⟩
    · rw [up_k (by omega), up_j (by decide), gl]; exact C.1.1
    · rw [up_k (by omega), up_j (by decide), hbN]; exact C.1.2.1
    · rw [up_k (by omega), up_at]
    · rw [SI]
      by_cases e : w = f
      · subst e; rw [up_at, va_up_self]; rfl
      · rw [up_j e, up_k (by omega), va_up_ne _ _ e]; exact C.1.2.2.2 w hw2
  have X1 : CX t i (up (up mu (8 + 8 * i) 2 (mk8 (tl t i))) (9 + 8 * i) f (nI g)) := by
    unfold CX at *
    rw [up_k (show ¬ 8 + 8 * i = 9 + 8 * i by omega), up_j (by decide), f1 (10 + 8 * i) (by omega) (by omega)]
    exact gX
  generalize up (up mu (8 + 8 * i) 2 (mk8 (tl t i))) (9 + 8 * i) f (nI g) = m1 at f1 K1 X1 ⊢
  have e34 : m1 3 4 = iI (sF t) := by rw [f1 3 (by omega) (by omega)]; exact gG.2.2.1
  simp only [Option.some.injEq, Sum.inl.injEq, Sum.inr.injEq, Prod.mk.injEq, and_assoc, exists_eq_left', exists_eq_left, exists_and_left, exists_and_right, exists_eq', exists_eq, forall_eq, forall_eq', true_and, and_true, exists_const, Hm_1, gF_Br_2, gF_Ru_4, e34, gC_ch _ _ h12]
  refine sp_Ch_tune (hwt c3) hit K1 (fun m2 u2 c2 => ?_)
  simp only [Option.some.injEq, Sum.inl.injEq, Sum.inr.injEq, Prod.mk.injEq, and_assoc, exists_eq_left', exists_eq_left, exists_and_left, exists_and_right, exists_eq', exists_eq, forall_eq, forall_eq', true_and, and_true, exists_const, Hm_1, gF_Br_0, gC_Se]
  refine sp_Se_forgetChord h12 ?_
  have cc : CC t i (up (up m2 (11 + 8 * i) 5 0) 1 8 0) := CC.k ⟨K1.tun u2, c2, X1.tun u2⟩ (by rw [up_k (by omega), up_k (by omega)]) (by rw [up_k (by omega), up_k (by omega)]) (by rw [up_k (by omega), up_k (by omega)])
  simp only [Option.some.injEq, Sum.inl.injEq, Sum.inr.injEq, Prod.mk.injEq, and_assoc, exists_eq_left', exists_eq_left, exists_and_left, exists_and_right, exists_eq', exists_eq, forall_eq, forall_eq', true_and, and_true, exists_const, Hm_1, gF_ch_3 _ _ h12, cc.2.1.1, sp_In_bitCount, cnt8_W]
  have ky : ∀ k, ¬ k = 1 → ¬ k = 8 + 8 * i → ¬ k = 9 + 8 * i → ¬ k = 11 + 8 * i → up (up m2 (11 + 8 * i) 5 0) 1 8 0 k = mu k := fun k a1 a2 a3 a4 => by rw [up_k a1, up_k a4, tun_k u2 a2, f1 k a2 a3]
  exact hp _ (RC_loc (i := i) (hwt c3).n hr (gG.k (ky 0 (by omega) (by omega) (by omega) (by omega)) (fun k _ _ => ky k (by omega) (by omega) (by omega) (by omega))) cc (by rw [up_k (by omega), up_at]) (up_at _ _ _ _) loc2 hlo hhi (fun q hq e k k1 k2 => ky k (by omega) (by omega) (by omega) (by omega))) (fun k hk => ky k (by omega) (by omega) (by omega) (by omega))
set_option maxHeartbeats 2000000 in
theorem cs_chord {Post : Int32 → MH → Prop} {s : SG} {mu : Nat → Nat → Int32} {l : Nat → Int64} (hr : RC s mu) (hw : WF s) (a b c : Int32) (hp : ∀ mu2, RC (o_chord s a b c).2 mu2 → CF mu mu2 → Post (o_chord s a b c).1 (Hm mu2 l)) : wp_Br_chord Post 0 a b c (Hm mu l) := by
  have hn := hw.n
  have G := hr.1.1
  have hwt := wf_chord hw a b c
  unfold o_chord at hp hwt
  unfold wp_Br_chord
  simp only [sp_Br_within, t0, t6, t1, t5, tm1, inI_d, bI_0]
  cases e1 : inI a 0 6
  · rw [e1] at hp; exact ⟨fun _ => hp mu hr (CF.rf mu), fun q => absurd rfl q⟩
  refine ⟨fun q => (by cases q), fun _ => ?_⟩
  cases e2 : inI b 1 5
  · rw [e1, e2] at hp; exact ⟨fun _ => hp mu hr (CF.rf mu), fun q => absurd rfl q⟩
  refine ⟨fun q => (by cases q), fun _ => ?_⟩
  cases e3 : inI c (-1) 1
  · rw [e1, e2, e3] at hp; exact ⟨fun q => absurd rfl q, fun _ => hp mu hr (CF.rf mu)⟩
  refine ⟨fun _ => ?_, fun q => (by cases q)⟩
  rw [e1, e2, e3] at hp hwt
  have lt12 : nI (sn s) < 12 ↔ sn s < 12 := nI_ltI (b := 12) (by omega) (by decide)
  simp only [Option.some.injEq, Sum.inl.injEq, Sum.inr.injEq, Prod.mk.injEq, and_assoc, exists_eq_left', exists_eq_left, exists_and_left, exists_and_right, exists_eq', exists_eq, forall_eq, forall_eq', true_and, and_true, exists_const, Hm_1, gF_Br_4, G.1, lt12]
  by_cases e12 : sn s = 12
  · rw [e12] at hp
    exact ⟨fun q => by omega, fun _ => hp mu hr (CF.rf mu)⟩
  refine ⟨fun h12 => ?_, fun q => by omega⟩
  replace hp : ∀ mu2, RC (if sn s = 12 then (-3, s) else (nI (sn s), mkS (sF s) (sn s + 1) (sp s) (va_up (slt s) (sn s) (ix a)) (va_up (soc s) (sn s) (ix b)) (va_up (sal s) (sn s) c.toInt) (va_up (std s) (sn s) (fun _ => 0)) (slo s) (shi s) (sho s) (va_up (sgv s) (sn s) (fun _ => -1)) (va_up (ssg s) (sn s) none))).2 mu2 → CF mu mu2 → Post (if sn s = 12 then (-3, s) else (nI (sn s), mkS (sF s) (sn s + 1) (sp s) (va_up (slt s) (sn s) (ix a)) (va_up (soc s) (sn s) (ix b)) (va_up (sal s) (sn s) c.toInt) (va_up (std s) (sn s) (fun _ => 0)) (slo s) (shi s) (sho s) (va_up (sgv s) (sn s) (fun _ => -1)) (va_up (ssg s) (sn s) none))).1 (Hm mu2 l) := hp
  replace hwt : WF (if sn s = 12 then (-3, s) else (nI (sn s), mkS (sF s) (sn s + 1) (sp s) (va_up (slt s) (sn s) (ix a)) (va_up (soc s) (sn s) (ix b)) (va_up (sal s) (sn s) c.toInt) (va_up (std s) (sn s) (fun _ => 0)) (slo s) (shi s) (sho s) (va_up (sgv s) (sn s) (fun _ => -1)) (va_up (ssg s) (sn s) none))).2 := hwt
  rw [if_neg e12] at hp hwt
  replace hp : ∀ mu2, RC (mkS (sF s) (sn s + 1) (sp s) (va_up (slt s) (sn s) (ix a)) (va_up (soc s) (sn s) (ix b)) (va_up (sal s) (sn s) c.toInt) (va_up (std s) (sn s) (fun _ => 0)) (slo s) (shi s) (sho s) (va_up (sgv s) (sn s) (fun _ => -1)) (va_up (ssg s) (sn s) none)) mu2 → CF mu mu2 → Post (nI (sn s)) (Hm mu2 l) := hp
  replace hwt : WF (mkS (sF s) (sn s + 1) (sp s) (va_up (slt s) (sn s) (ix a)) (va_up (soc s) (sn s) (ix b)) (va_up (sal s) (sn s) c.toInt) (va_up (std s) (sn s) (fun _ => 0)) (slo s) (shi s) (sho s) (va_up (sgv s) (sn s) (fun _ => -1)) (va_up (ssg s) (sn s) none)) := hwt
  obtain ⟨ea, hA⟩ := inI_ix (b := 6) (by decide) e1
  obtain ⟨eb, hB⟩ : b = nI (ix b) ∧ ix b ≤ 5 := by
    unfold inI at e2
    simp only [decide_eq_true_eq] at e2
    obtain ⟨p, q⟩ := ix_of (n := 6) (x := b) (by omega) (by decide) (by omega)
    exact ⟨p, by omega⟩
  have ec : c = iI c.toInt := (iI_of c).symm
  have hC : -1 ≤ c.toInt ∧ c.toInt ≤ 1 := by unfold inI at e3; simpa using e3
  clear e1 e2 e3
  generalize ix a = x at ea hA hp hwt
  generalize ix b = y at eb hB hp hwt
  generalize c.toInt = z at ec hC hp hwt
  subst ea eb ec
  have tN : sn (mkS (sF s) (sn s + 1) (sp s) (va_up (slt s) (sn s) x) (va_up (soc s) (sn s) y) (va_up (sal s) (sn s) z) (va_up (std s) (sn s) (fun _ => 0)) (slo s) (shi s) (sho s) (va_up (sgv s) (sn s) (fun _ => -1)) (va_up (ssg s) (sn s) none)) = sn s + 1 := rfl
  have tF : sF (mkS (sF s) (sn s + 1) (sp s) (va_up (slt s) (sn s) x) (va_up (soc s) (sn s) y) (va_up (sal s) (sn s) z) (va_up (std s) (sn s) (fun _ => 0)) (slo s) (shi s) (sho s) (va_up (sgv s) (sn s) (fun _ => -1)) (va_up (ssg s) (sn s) none)) = sF s := rfl
  have tlt : slt (mkS (sF s) (sn s + 1) (sp s) (va_up (slt s) (sn s) x) (va_up (soc s) (sn s) y) (va_up (sal s) (sn s) z) (va_up (std s) (sn s) (fun _ => 0)) (slo s) (shi s) (sho s) (va_up (sgv s) (sn s) (fun _ => -1)) (va_up (ssg s) (sn s) none)) (sn s) = x := va_up_self _ _ _
  have tsoc : soc (mkS (sF s) (sn s + 1) (sp s) (va_up (slt s) (sn s) x) (va_up (soc s) (sn s) y) (va_up (sal s) (sn s) z) (va_up (std s) (sn s) (fun _ => 0)) (slo s) (shi s) (sho s) (va_up (sgv s) (sn s) (fun _ => -1)) (va_up (ssg s) (sn s) none)) (sn s) = y := va_up_self _ _ _
  have tsal : sal (mkS (sF s) (sn s + 1) (sp s) (va_up (slt s) (sn s) x) (va_up (soc s) (sn s) y) (va_up (sal s) (sn s) z) (va_up (std s) (sn s) (fun _ => 0)) (slo s) (shi s) (sho s) (va_up (sgv s) (sn s) (fun _ => -1)) (va_up (ssg s) (sn s) none)) (sn s) = z := va_up_self _ _ _
  have tsg : ssg (mkS (sF s) (sn s + 1) (sp s) (va_up (slt s) (sn s) x) (va_up (soc s) (sn s) y) (va_up (sal s) (sn s) z) (va_up (std s) (sn s) (fun _ => 0)) (slo s) (shi s) (sho s) (va_up (sgv s) (sn s) (fun _ => -1)) (va_up (ssg s) (sn s) none)) (sn s) = none := va_up_self _ _ _
  have tgv : ∀ v, sgv (mkS (sF s) (sn s + 1) (sp s) (va_up (slt s) (sn s) x) (va_up (soc s) (sn s) y) (va_up (sal s) (sn s) z) (va_up (std s) (sn s) (fun _ => 0)) (slo s) (shi s) (sho s) (va_up (sgv s) (sn s) (fun _ => -1)) (va_up (ssg s) (sn s) none)) (sn s) v = -1 := fun v => congrFun (va_up_self (sgv s) (sn s) (fun _ => -1)) v
  have tstd : ∀ f, std (mkS (sF s) (sn s + 1) (sp s) (va_up (slt s) (sn s) x) (va_up (soc s) (sn s) y) (va_up (sal s) (sn s) z) (va_up (std s) (sn s) (fun _ => 0)) (slo s) (shi s) (sho s) (va_up (sgv s) (sn s) (fun _ => -1)) (va_up (ssg s) (sn s) none)) (sn s) f = 0 := fun v => congrFun (va_up_self (std s) (sn s) (fun _ => 0)) v
  have loc2 : ∀ q, q < sn s + 1 → ¬ q = sn s → q < sn s ∧ Sam s (mkS (sF s) (sn s + 1) (sp s) (va_up (slt s) (sn s) x) (va_up (soc s) (sn s) y) (va_up (sal s) (sn s) z) (va_up (std s) (sn s) (fun _ => 0)) (slo s) (shi s) (sho s) (va_up (sgv s) (sn s) (fun _ => -1)) (va_up (ssg s) (sn s) none)) q ∧ ssg s q = ssg (mkS (sF s) (sn s + 1) (sp s) (va_up (slt s) (sn s) x) (va_up (soc s) (sn s) y) (va_up (sal s) (sn s) z) (va_up (std s) (sn s) (fun _ => 0)) (slo s) (shi s) (sho s) (va_up (sgv s) (sn s) (fun _ => -1)) (va_up (ssg s) (sn s) none)) q ∧ ∀ v, sgv s q v = sgv (mkS (sF s) (sn s + 1) (sp s) (va_up (slt s) (sn s) x) (va_up (soc s) (sn s) y) (va_up (sal s) (sn s) z) (va_up (std s) (sn s) (fun _ => 0)) (slo s) (shi s) (sho s) (va_up (sgv s) (sn s) (fun _ => -1)) (va_up (ssg s) (sn s) none)) q v := fun q hq e => ⟨by omega, ⟨rfl, (va_up_ne (slt s) x e).symm, (va_up_ne (soc s) y e).symm, (va_up_ne (sal s) z e).symm, fun f => (congrFun (va_up_ne (std s) (fun _ => 0) e) f).symm⟩, (va_up_ne (ssg s) none e).symm, fun v => (congrFun (va_up_ne (sgv s) (fun _ => -1) e) v).symm⟩
  have tlo : slo s = slo (mkS (sF s) (sn s + 1) (sp s) (va_up (slt s) (sn s) x) (va_up (soc s) (sn s) y) (va_up (sal s) (sn s) z) (va_up (std s) (sn s) (fun _ => 0)) (slo s) (shi s) (sho s) (va_up (sgv s) (sn s) (fun _ => -1)) (va_up (ssg s) (sn s) none)) := rfl
  have thi : shi s = shi (mkS (sF s) (sn s + 1) (sp s) (va_up (slt s) (sn s) x) (va_up (soc s) (sn s) y) (va_up (sal s) (sn s) z) (va_up (std s) (sn s) (fun _ => 0)) (slo s) (shi s) (sho s) (va_up (sgv s) (sn s) (fun _ => -1)) (va_up (ssg s) (sn s) none)) := rfl
  have tho : sho s = sho (mkS (sF s) (sn s + 1) (sp s) (va_up (slt s) (sn s) x) (va_up (soc s) (sn s) y) (va_up (sal s) (sn s) z) (va_up (std s) (sn s) (fun _ => 0)) (slo s) (shi s) (sho s) (va_up (sgv s) (sn s) (fun _ => -1)) (va_up (ssg s) (sn s) none)) := rfl
  have tsp : sp (mkS (sF s) (sn s + 1) (sp s) (va_up (slt s) (sn s) x) (va_up (soc s) (sn s) y) (va_up (sal s) (sn s) z) (va_up (std s) (sn s) (fun _ => 0)) (slo s) (shi s) (sho s) (va_up (sgv s) (sn s) (fun _ => -1)) (va_up (ssg s) (sn s) none)) = sp s := rfl
  generalize mkS (sF s) (sn s + 1) (sp s) (va_up (slt s) (sn s) x) (va_up (soc s) (sn s) y) (va_up (sal s) (sn s) z) (va_up (std s) (sn s) (fun _ => 0)) (slo s) (shi s) (sho s) (va_up (sgv s) (sn s) (fun _ => -1)) (va_up (ssg s) (sn s) none) = t at *
  have htl : ∀ f, tl t (sn s) f = false := fun f => by unfold tl; rw [tstd]; rfl
  have hbr := bN_rg hwt (show sn s < sn t by omega)
  have hbN : iI (12 * ((y : Int) + 1) + semi x + z) = nI (bN t (sn s)) := by
    have : (bN t (sn s) : Int) = 12 * ((y : Int) + 1) + semi x + z := by
      have e : bN t (sn s) = (12 * ((y : Int) + 1) + semi x + z).toNat := by unfold bN bas; rw [tlt, tsoc, tsal]
      omega
    rw [iI_n, this]
  generalize hiq : sn s = i at *
  simp only [Option.some.injEq, Sum.inl.injEq, Sum.inr.injEq, Prod.mk.injEq, and_assoc, exists_eq_left', exists_eq_left, exists_and_left, exists_and_right, exists_eq', exists_eq, forall_eq, forall_eq', true_and, and_true, exists_const, Hm_1, gF_Br_1, gF_Br_4, gR_CA, vp_in_nI h12 (show 12 < 2 ^ 31 by decide), nI_clamp (show i < 2 ^ 31 by omega), if_pos h12, gC_ch _ _ h12, G.1, hiq]
  refine sp_Ch_begin h12 hA ?_
  rw [hbN]
  have f1 : ∀ k, ¬ k = 8 + 8 * i → ¬ k = 9 + 8 * i → ¬ k = 10 + 8 * i → fill (up (fill (up (up (up mu (8 + 8 * i) 0 (nI x)) (8 + 8 * i) 1 (nI (bN t i))) (8 + 8 * i) 6 (-1)) (10 + 8 * i) 0 3 (-1)) (8 + 8 * i) 2 0) (9 + 8 * i) 0 10 0 k = mu k := fun k a1 a2 a3 => by rw [fill_k a2, up_k a1, fill_k a3, up_k a1, up_k a1, up_k a1]
  have K1 : CK t i (fill (up (fill (up (up (up mu (8 + 8 * i) 0 (nI x)) (8 + 8 * i) 1 (nI (bN t i))) (8 + 8 * i) 6 (-1)) (10 + 8 * i) 0 3 (-1)) (8 + 8 * i) 2 0) (9 + 8 * i) 0 10 0) := by
    refine ⟨?_, ?_, ?_, fun f hf => ?_⟩
    · rw [fill_k (by omega), up_j (by decide), fill_k (by omega), up_j (by decide), up_j (by decide), up_at, tlt]
    · rw [fill_k (by omega), up_j (by decide), fill_k (by omega), up_j (by decide), up_at]
    · rw [fill_k (by omega), up_at, mk8_0 htl]
    · rw [fill_in (by omega), tstd]; rfl
  have X1 : CX t i (fill (up (fill (up (up (up mu (8 + 8 * i) 0 (nI x)) (8 + 8 * i) 1 (nI (bN t i))) (8 + 8 * i) 6 (-1)) (10 + 8 * i) 0 3 (-1)) (8 + 8 * i) 2 0) (9 + 8 * i) 0 10 0) := by
    refine ⟨?_, fun v hv => ?_⟩
    · rw [fill_k (by omega), up_j (by decide), fill_k (by omega), up_at, tsg]; rfl
    · rw [fill_k (by omega), up_k (by omega), fill_in (by omega), tgv]; rfl
  generalize fill (up (fill (up (up (up mu (8 + 8 * i) 0 (nI x)) (8 + 8 * i) 1 (nI (bN t i))) (8 + 8 * i) 6 (-1)) (10 + 8 * i) 0 3 (-1)) (8 + 8 * i) 2 0) (9 + 8 * i) 0 10 0 = m1 at f1 K1 X1 ⊢
  have e34 : m1 3 4 = iI (sF t) := by rw [f1 3 (by omega) (by omega) (by omega), tF]; exact G.2.2.1
  have e04 : m1 0 4 = nI i := by rw [f1 0 (by omega) (by omega) (by omega), G.1, hiq]
  simp only [Option.some.injEq, Sum.inl.injEq, Sum.inr.injEq, Prod.mk.injEq, and_assoc, exists_eq_left', exists_eq_left, exists_and_left, exists_and_right, exists_eq', exists_eq, forall_eq, forall_eq', true_and, and_true, exists_const, Hm_1, gF_Br_1, gF_Br_2, gF_Br_4, gR_CA, e04, vp_in_nI h12 (show 12 < 2 ^ 31 by decide), nI_clamp (show i < 2 ^ 31 by omega), if_pos h12, gF_Ru_4, e34, gC_ch _ _ h12]
  refine sp_Ch_tune hwt (by omega) K1 (fun m2 u2 c2 => ?_)
  have g04 : m2 0 4 = nI i := by rw [tun_k u2 (by omega)]; exact e04
  simp only [Option.some.injEq, Sum.inl.injEq, Sum.inr.injEq, Prod.mk.injEq, and_assoc, exists_eq_left', exists_eq_left, exists_and_left, exists_and_right, exists_eq', exists_eq, forall_eq, forall_eq', true_and, and_true, exists_const, Hm_1, gF_Br_0, gF_Br_4, g04, gC_Se]
  refine sp_Se_forgetChord h12 ?_
  have h04 : up (up m2 (11 + 8 * i) 5 0) 1 8 0 0 4 = nI i := by rw [up_k (by omega), up_k (by omega)]; exact g04
  simp only [Option.some.injEq, Sum.inl.injEq, Sum.inr.injEq, Prod.mk.injEq, and_assoc, exists_eq_left', exists_eq_left, exists_and_left, exists_and_right, exists_eq', exists_eq, forall_eq, forall_eq', true_and, and_true, exists_const, Hm_1, gF_Br_4, fs_Br_4, h04, nI_1, up_at, n_sub1 (show 1 ≤ i + 1 by omega), show i + 1 - 1 = i from rfl]
  have ky : ∀ k, ¬ k = 0 → ¬ k = 1 → ¬ k = 8 + 8 * i → ¬ k = 9 + 8 * i → ¬ k = 10 + 8 * i → ¬ k = 11 + 8 * i → up (up (up m2 (11 + 8 * i) 5 0) 1 8 0) 0 4 (nI (i + 1)) k = mu k := fun k a0 a1 a2 a3 a4 a5 => by rw [up_k a0, up_k a1, up_k a5, tun_k u2 a2, f1 k a2 a3 a4]
  have cc : CC t i (up (up (up m2 (11 + 8 * i) 5 0) 1 8 0) 0 4 (nI (i + 1))) := CC.k ⟨K1.tun u2, c2, X1.tun u2⟩ (by rw [up_k (by omega), up_k (by omega), up_k (by omega)]) (by rw [up_k (by omega), up_k (by omega), up_k (by omega)]) (by rw [up_k (by omega), up_k (by omega), up_k (by omega)])
  refine hp _ (RC_loc (i := i) hwt.n hr ⟨?_, ?_, ?_, fun v hv => ?_⟩ cc (by rw [up_k (by omega), up_k (by omega), up_at]) (by rw [up_k (by decide), up_at]) (fun q hq e => ?_) tlo thi (fun q hq e k k1 k2 => ky k (by omega) (by omega) (by omega) (by omega) (by omega) (by omega))) (fun k hk => ky k (by omega) (by omega) (by omega) (by omega) (by omega) (by omega))
  · rw [up_at, tN]
  · rw [ky 3 (by omega) (by omega) (by omega) (by omega) (by omega) (by omega), tsp]; exact G.2.1
  · rw [ky 3 (by omega) (by omega) (by omega) (by omega) (by omega) (by omega), tF]; exact G.2.2.1
  · rw [ky 4 (by omega) (by omega) (by omega) (by omega) (by omega) (by omega), ky 5 (by omega) (by omega) (by omega) (by omega) (by omega) (by omega), ky 6 (by omega) (by omega) (by omega) (by omega) (by omega) (by omega), ← tlo, ← thi, ← tho]; exact G.2.2.2 v hv
  · rw [hiq]
    exact loc2 q (by omega) e
set_option maxHeartbeats 1000000 in
theorem cs_key {Post : Int32 → MH → Prop} {s : SG} {mu : Nat → Nat → Int32} {l : Nat → Int64} (hr : RC s mu) (hw : WF s) (x : Int32) (hp : ∀ mu2, RC (o_key s x).2 mu2 → CF mu mu2 → Post (o_key s x).1 (Hm mu2 l)) : wp_Br_key Post 0 x (Hm mu l) := by
  have hn := hw.n
  have G := hr.1.1
  have hwt := wf_key hw x
  unfold o_key at hp hwt
  unfold wp_Br_key
  simp only [sp_Br_within, tm7, t7, inI_d, bI_0]
  cases e1 : inI x (-7) 7
  · rw [e1] at hp; exact ⟨fun q => absurd rfl q, fun _ => hp mu hr (CF.rf mu)⟩
  refine ⟨fun _ => ?_, fun q => (by cases q)⟩
  rw [e1] at hp hwt
  replace hp : ∀ mu2, RC (mkS x.toInt (sn s) (sp s) (slt s) (soc s) (sal s) (std s) (slo s) (shi s) (sho s) (sgv s) (ssg s)) mu2 → CF mu mu2 → Post (iI (sF s + 7)) (Hm mu2 l) := hp
  replace hwt : WF (mkS x.toInt (sn s) (sp s) (slt s) (soc s) (sal s) (std s) (slo s) (shi s) (sho s) (sgv s) (ssg s)) := hwt
  simp only [Option.some.injEq, Sum.inl.injEq, Sum.inr.injEq, Prod.mk.injEq, and_assoc, exists_eq_left', exists_eq_left, exists_and_left, exists_and_right, exists_eq', exists_eq, forall_eq, forall_eq', true_and, and_true, exists_const, Hm_1, gF_Br_2, gF_Ru_4, fs_Ru_4, G.2.2.1]
  have ec : x = iI x.toInt := (iI_of x).symm
  clear e1
  generalize x.toInt = z at ec hp hwt
  subst ec
  have gG : CG (mkS z (sn s) (sp s) (slt s) (soc s) (sal s) (std s) (slo s) (shi s) (sho s) (sgv s) (ssg s)) (up mu 3 4 (iI z)) := by
    refine ⟨?_, ?_, ?_, fun v hv => ?_⟩
    · rw [up_k (by decide)]; exact G.1
    · rw [up_j (by decide)]; exact G.2.1
    · rw [up_at]; rfl
    · rw [up_k (show ¬ 4 = 3 by decide), up_k (show ¬ 5 = 3 by decide), up_k (show ¬ 6 = 3 by decide)]; exact G.2.2.2 v hv
  have gK : ∀ q, q < sn s → CK (mkS z (sn s) (sp s) (slt s) (soc s) (sal s) (std s) (slo s) (shi s) (sho s) (sgv s) (ssg s)) q mu ∧ CX (mkS z (sn s) (sp s) (slt s) (soc s) (sal s) (std s) (slo s) (shi s) (sho s) (sgv s) (ssg s)) q mu := fun q hq => ⟨(hr.1.2 q hq).1, (hr.1.2 q hq).2.2⟩
  have tN : sn (mkS z (sn s) (sp s) (slt s) (soc s) (sal s) (std s) (slo s) (shi s) (sho s) (sgv s) (ssg s)) = sn s := rfl
  have tF : sF (mkS z (sn s) (sp s) (slt s) (soc s) (sal s) (std s) (slo s) (shi s) (sho s) (sgv s) (ssg s)) = z := rfl
  generalize mkS z (sn s) (sp s) (slt s) (soc s) (sal s) (std s) (slo s) (shi s) (sho s) (sgv s) (ssg s) = t at *
  have key : ∀ (j i : Nat) (m : Nat → Nat → Int32), i + j = sn s → CG t m → (∀ q, q < sn s → CK t q m ∧ CX t q m) → (∀ q, q < i → CT t q m) → CF mu m → wn_Br_key_31 Post (j + 1) 0 (iI z) (iI (sF s)) (nI i) (Hm m l) := by
    intro j
    induction j with
    | zero =>
      intro i m hi g k c f
      obtain rfl : i = sn s := by omega
      show wb_Br_key_31 _ _ _ _ _ _ _
      unfold wb_Br_key_31
      simp only [Option.some.injEq, Sum.inl.injEq, Sum.inr.injEq, Prod.mk.injEq, and_assoc, exists_eq_left', exists_eq_left, exists_and_left, exists_and_right, exists_eq', exists_eq, forall_eq, forall_eq', true_and, and_true, exists_const, Hm_1, gF_Br_4, g.1, tN, nI_leI (show sn s < 2 ^ 31 by omega) (show sn s < 2 ^ 31 by omega), gF_Br_0, gC_Se]
      refine ⟨fun _ => sp_Se_forgetAll (fun m2 f2 => ?_), fun q => absurd (Nat.le_refl _) q⟩
      rw [show (7 : Int32) = iI 7 from rfl, iI_add]
      refine hp m2 ⟨⟨g.k (f2.1 0 (by omega) (by omega)) (fun k _ _ => f2.1 k (by omega) (by omega)), fun q hq => ?_⟩, fun q hq => Or.inl (f2.2.1 q (by omega)), Or.inl f2.2.2⟩ (fun k hk => (f2.1 k (by omega) (by omega)).trans (f k hk))
      rw [tN] at hq
      exact CC.k ⟨(k q hq).1, c q hq, (k q hq).2⟩ (f2.1 _ (by omega) (by omega)) (f2.1 _ (by omega) (by omega)) (f2.1 _ (by omega) (by omega))
    | succ j ih =>
      intro i m hi g k c f
      have h12 : i < 12 := by omega
      show wb_Br_key_31 _ _ _ _ _ _ _
      unfold wb_Br_key_31
      simp only [Option.some.injEq, Sum.inl.injEq, Sum.inr.injEq, Prod.mk.injEq, and_assoc, exists_eq_left', exists_eq_left, exists_and_left, exists_and_right, exists_eq', exists_eq, forall_eq, forall_eq', true_and, and_true, exists_const, Hm_1, gF_Br_4, g.1, tN, nI_leI (show sn s < 2 ^ 31 by omega) (show i < 2 ^ 31 by omega), gF_Br_1, gR_CA, vp_in_nI h12 (show 12 < 2 ^ 31 by decide), nI_clamp (show i < 2 ^ 31 by omega), if_pos h12, gC_ch _ _ h12, nI_1]
      refine ⟨fun q => absurd q (by omega), fun _ => ?_⟩
      have tune := @sp_Ch_tune (fun h46 => wn_Br_key_31 Post (j + 1) 0 (iI z) (iI (sF s)) (nI (i + 1)) h46) t m i hwt (by omega) (k i (by omega)).1 l
      rw [tF] at tune
      refine tune (fun m2 u2 c2 => ?_)
      refine ih (i + 1) m2 (by omega) (g.k (tun_k u2 (by omega)) (fun k _ _ => tun_k u2 (by omega))) (fun q hq => ?_) (fun q hq => ?_) (fun k hk => by rw [tun_k u2 (by omega)]; exact f k hk)
      · by_cases e : q = i
        · subst e; exact ⟨(k q hq).1.tun u2, (k q hq).2.tun u2⟩
        · have kk := k q hq
          unfold CK CX at *
          rw [tun_k u2 (k := 8 + 8 * q) (by omega), tun_k u2 (k := 9 + 8 * q) (by omega), tun_k u2 (k := 10 + 8 * q) (by omega)]
          exact kk
      · by_cases e : q = i
        · subst e; exact c2
        · have cc := c q (by omega)
          unfold CT at *
          rw [tun_k u2 (k := 8 + 8 * q) (by omega)]
          exact cc
  refine ⟨_, key (sn s) 0 _ (by omega) gG (fun q hq => ?_) (fun q hq => absurd hq (Nat.not_lt_zero _)) (fun k hk => up_k (by omega))⟩
  have kk := gK q hq
  unfold CK CX at *
  rw [up_k (show ¬ 8 + 8 * q = 3 by omega), up_k (show ¬ 9 + 8 * q = 3 by omega), up_k (show ¬ 10 + 8 * q = 3 by omega)]
  exact kk
