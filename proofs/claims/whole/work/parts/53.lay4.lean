theorem minTo_le (f : Nat → Nat) (b : Nat) : ∀ n, minTo f b n ≤ b
  | 0 => Nat.le_refl b
  | n + 1 => by have := minTo_le f b n; unfold minTo; split <;> omega
theorem Rs_le (s : SG) (d j : Nat) : Rs s d j ≤ 100000000 := by
  cases d with
  | zero => unfold Rs; omega
  | succ d => unfold Rs; exact minTo_le _ _ _
def B45 (mu m : Nat → Nat → Int32) : Prop := ∀ k, ¬ k = 124 → ¬ k = 125 → ¬ k = 131 → m k = mu k
theorem B45.tr {a b c : Nat → Nat → Int32} (h : B45 a b) (g : B45 b c) : B45 a c := fun k h1 h2 h3 => (g k h1 h2 h3).trans (h k h1 h2 h3)
theorem B45.rb {s : SG} {mu mu2 : Nat → Nat → Int32} (h : B45 mu mu2) (hb : RB s mu) : RB s mu2 := RB_of hb (by rw [h 113 (by decide) (by decide) (by decide)]) (by rw [h 113 (by decide) (by decide) (by decide)]) (by rw [h 113 (by decide) (by decide) (by decide)]) (fun k _ _ => h k (by omega) (by omega) (by omega))
theorem B45.dat {s : SG} {i : Nat} {mu mu2 : Nat → Nat → Int32} (h : B45 mu mu2) (hd : Dat s i mu) : Dat s i mu2 := by
  unfold Dat at *
  rw [h 126 (by decide) (by decide) (by decide), h 127 (by decide) (by decide) (by decide), h 128 (by decide) (by decide) (by decide), h 129 (by decide) (by decide) (by decide), h 130 (by decide) (by decide) (by decide)]
  exact hd
theorem S45.b {mu mu2 : Nat → Nat → Int32} (h : S45 mu mu2) : B45 mu mu2 := fun k h1 h2 _ => h k h1 h2
def RsT (s : SG) (q k : Nat) : Nat := Rs s (sn s - 1 - q) k
def BI (s : SG) (mu : Nat → Nat → Int32) (i jj : Nat) (m : Nat → Nat → Int32) : Prop := B45 mu m ∧ (∀ q, i < q → q < sn s → ∀ k, k < sz s q → m 131 (800 * q + k) = nI (RsT s q k)) ∧ (∀ k, k < jj → m 131 (800 * i + k) = nI (RsT s i k))
theorem BI.s45 {s : SG} {mu : Nat → Nat → Int32} {i jj : Nat} {m m2 : Nat → Nat → Int32} (h : BI s mu i jj m) (g : S45 m m2) : BI s mu i jj m2 := by
  have e := g 131 (by decide) (by decide)
  exact ⟨h.1.tr g.b, fun q h1 h2 k hk => by rw [e]; exact h.2.1 q h1 h2 k hk, fun k hk => by rw [e]; exact h.2.2 k hk⟩
theorem BI.up {s : SG} {mu : Nat → Nat → Int32} {i jj : Nat} {m : Nat → Nat → Int32} (h : BI s mu i jj m) (hj : jj < 800) (v : Int32) : BI s mu i jj (up m 131 (800 * i + jj) v) := by
  refine ⟨fun k h1 h2 h3 => by rw [up_k h3]; exact h.1 k h1 h2 h3, fun q h1 h2 k hk => ?_, fun k hk => ?_⟩
  · rw [up_j (by omega)]; exact h.2.1 q h1 h2 k hk
  · rw [up_j (by omega)]; exact h.2.2 k hk
def rsF (s : SG) (i j : Nat) : Nat → Nat := fun k => if RsT s (i + 1) k < FARN ∧ okM s (i + 1) j k = true then csM (vv s (i + 1) k) (vv s i j) + RsT s (i + 1) k else FARN
theorem RsT_s {s : SG} {i : Nat} (hi : i + 1 < sn s) (j : Nat) : RsT s i j = minTo (rsF s i j) FARN (sz s (i + 1)) := by
  unfold RsT
  obtain ⟨d, hd⟩ : ∃ d, sn s - 1 - i = d + 1 := ⟨sn s - 2 - i, by omega⟩
  have e : sn s - 1 - d = i + 1 := by omega
  have e2 : sn s - 1 - (i + 1) = d := by omega
  rw [hd]
  show minTo (fun k => if Rs s d k < FARN ∧ okM s (sn s - 1 - d) j k = true then csM (vv s (sn s - 1 - d) k) (vv s (sn s - 1 - d - 1) j) + Rs s d k else FARN) FARN (sz s (sn s - 1 - d)) = _
  unfold rsF RsT
  rw [e, e2]
  rfl
theorem RsT_l {s : SG} {i : Nat} (hi : i + 1 = sn s) (j : Nat) : RsT s i j = 0 := by
  unfold RsT; rw [show sn s - 1 - i = 0 by omega]; rfl
theorem RsT_le (s : SG) (i j : Nat) : RsT s i j ≤ 100000000 := Rs_le _ _ _
theorem farI : (100000000 : Int32) = nI FARN := rfl
theorem lb153 {K7 : Nat → Int32 → MH → Prop} {K13 : Nat → Int32 → Int32 → MH → Prop} {K53 : Nat → Int32 → Int32 → Int32 → MH → Prop} {Post : MH → Prop} {i j k c r : Nat} {m : Nat → Nat → Int32} {l : Nat → Int64} (hi : i < 12) (hj : j < 800) (hc : c < 2 ^ 30) (hr : r < 2 ^ 30) (he : m 131 (800 * i + j) = nI r) (hp : K53 113 (nI i) (nI j) (nI (k + 1)) (Hm (up m 131 (800 * i + j) (nI (if c < r then c else r))) l)) : wp_Rm_layBack_153 K7 K13 K53 Post 113 (nI i) (nI j) (nI k) (nI c) (Hm m l) := by
  unfold wp_Rm_layBack_153 wp_Rm_layBack_200 wp_Rm_layBack_201
  simp only [Option.some.injEq, Sum.inl.injEq, Sum.inr.injEq, Prod.mk.injEq, and_assoc, exists_eq_left', exists_eq_left, exists_and_left, exists_and_right, exists_eq', exists_eq, forall_eq, forall_eq', true_and, and_true, exists_const, Hm_1, gF_Rm_22, gA_Rre, ms_Rre, show (800 : Int32) = nI 800 from rfl, pk_mul, nI_add, vp_in_nI (show 800 * i + j < 9600 by omega) (show 9600 < 2 ^ 31 by decide), nI_clamp (show 800 * i + j < 2 ^ 31 by omega), nI_1, he, nI_leI (show r < 2 ^ 31 by omega) (show c < 2 ^ 31 by omega)]
  refine ⟨fun e => ?_, fun e => ?_⟩
  · rw [if_neg (by omega)] at hp; exact hp
  · rw [if_pos (by omega)] at hp; exact hp
set_option maxHeartbeats 1000000 in
theorem lb53 {K7 : Nat → Int32 → MH → Prop} {K13 : Nat → Int32 → Int32 → MH → Prop} {Post : MH → Prop} {s : SG} {mu : Nat → Nat → Int32} {l : Nat → Int64} (hb : RB s mu) (hw : WF s) (hz : ∀ i, i < sn s → sz s i ≤ 800) (hd : ∀ q, q < sn s → Dat s q mu) {i j : Nat} (hi : i + 1 < sn s) (hj : j < sz s i) (hp : ∀ m2, BI s mu i (j + 1) m2 → K13 113 (nI i) (nI (j + 1)) (Hm m2 l)) : ∀ (u k : Nat) (m : Nat → Nat → Int32), k + u = sz s (i + 1) → BI s mu i j m → m 131 (800 * i + j) = nI (minTo (rsF s i j) FARN k) → wn_Rm_layBack_53 K7 K13 Post (u + 1) 113 (nI i) (nI j) (nI k) (Hm m l) := by
  have h12 := hw.n
  have z0 := hz i (by omega)
  have z1 := hz (i + 1) hi
  intro u
  induction u with
  | zero =>
    intro k m hk hB hv
    obtain rfl : k = sz s (i + 1) := by omega
    have hbm := hB.1.rb hb
    have hdm := hB.1.dat (hd (i + 1) hi)
    show wb_Rm_layBack_53 _ _ _ _ _ _ _ _ _
    unfold wb_Rm_layBack_53 wp_Rm_layBack_207
    simp only [Option.some.injEq, Sum.inl.injEq, Sum.inr.injEq, Prod.mk.injEq, and_assoc, exists_eq_left', exists_eq_left, exists_and_left, exists_and_right, exists_eq', exists_eq, forall_eq, forall_eq', true_and, and_true, exists_const, Hm_1, gF_Rm_2, gF_Rm_21, gA_Rsi, hbm.2.1, n_sub1 (show 1 ≤ sn s by omega), nI_1, vp_in_nI (show i + 1 < 12 by omega) (show 12 < 2 ^ 31 by decide), nI_clamp (show i + 1 < 2 ^ 31 by omega), hdm.2.2.2.1, nI_leI (show sz s (i + 1) < 2 ^ 31 by omega) (show sz s (i + 1) < 2 ^ 31 by omega), nI_leI (show sn s - 1 < 2 ^ 31 by omega) (show i < 2 ^ 31 by omega)]
    refine ⟨fun e => absurd e (by omega), fun _ => ⟨fun _ => hp m ⟨hB.1, hB.2.1, fun q hq => ?_⟩, fun e => absurd (Nat.le_refl _) e⟩⟩
    by_cases e : q = j
    · subst e; rw [RsT_s hi]; exact hv
    · exact hB.2.2 q (by omega)
  | succ u ih =>
    intro k m hk hB hv
    have hbm := hB.1.rb hb
    have hdm := hB.1.dat (hd (i + 1) hi)
    have hdi := hB.1.dat (hd i (by omega))
    have hRk := RsT_le s (i + 1) k
    have hmn := minTo_le (rsF s i j) FARN k
    have hF : FARN = 100000000 := rfl
    have er := hB.2.1 (i + 1) (by omega) hi k (by omega)
    have step : minTo (rsF s i j) FARN (k + 1) = if rsF s i j k < minTo (rsF s i j) FARN k then rsF s i j k else minTo (rsF s i j) FARN k := rfl
    show wb_Rm_layBack_53 _ _ _ _ _ _ _ _ _
    unfold wb_Rm_layBack_53 wp_Rm_layBack_201
    simp only [Option.some.injEq, Sum.inl.injEq, Sum.inr.injEq, Prod.mk.injEq, and_assoc, exists_eq_left', exists_eq_left, exists_and_left, exists_and_right, exists_eq', exists_eq, forall_eq, forall_eq', true_and, and_true, exists_const, Hm_1, gF_Rm_2, gF_Rm_21, gF_Rm_22, gF_Rm_15, gC_Rm, gA_Rsi, gA_Rre, hbm.2.1, n_sub1 (show 1 ≤ sn s by omega), nI_1, vp_in_nI (show i + 1 < 12 by omega) (show 12 < 2 ^ 31 by decide), nI_clamp (show i + 1 < 2 ^ 31 by omega), hdm.2.2.2.1, nI_leI (show sz s (i + 1) < 2 ^ 31 by omega) (show k < 2 ^ 31 by omega), nI_leI (show sn s - 1 < 2 ^ 31 by omega) (show i < 2 ^ 31 by omega), show (800 : Int32) = nI 800 from rfl, pk_mul, nI_add, vp_in_nI (show 800 * (i + 1) + k < 9600 by omega) (show 9600 < 2 ^ 31 by decide), nI_clamp (show 800 * (i + 1) + k < 2 ^ 31 by omega), er, farI, nI_leI (show FARN < 2 ^ 31 by decide) (show RsT s (i + 1) k < 2 ^ 31 by omega)]
    refine ⟨fun e => absurd e (by omega), fun _ => ⟨fun e => absurd e (by omega), fun _ => ⟨fun e => ?_, fun e => ?_⟩⟩⟩
    · refine ih (k + 1) m (by omega) hB ?_
      have : rsF s i j k = FARN := by unfold rsF; rw [if_neg (by omega)]
      rw [step, this, if_neg (by omega)]
      exact hv
    · refine tk hbm hw (show i < sn s by omega) z0 hj hdi (Or.inr (Or.inl rfl)) (fun m2 h2 row2 => ?_)
      have s2 : S45 m m2 := fun r _ g => h2 r g
      have B2 := hB.s45 s2
      refine ⟨124, gF_Rm_14 m2 l, gC_Rm _ l, ?_⟩
      refine tk (B2.1.rb hb) hw hi z1 (show k < sz s (i + 1) by omega) (B2.1.dat (hd (i + 1) hi)) (Or.inl rfl) (fun m3 h3 row3 => ?_)
      have s3 : S45 m2 m3 := fun r g _ => h3 r g
      have B3 := B2.s45 s3
      have row2' : Row m3 125 (vv s i j) := Row_k row2 (h3 125 (by decide))
      have e131 : m3 131 = m 131 := by rw [h3 131 (by decide), h2 131 (by decide)]
      have hv3 : m3 131 (800 * i + j) = nI (minTo (rsF s i j) FARN k) := by rw [e131]; exact hv
      refine ⟨gC_Rm _ l, ?_⟩
      refine sp_Rm_pairRule (i := i + 1) (B3.1.rb hb) hw (by omega) (by omega) (B3.1.dat (hd i (by omega))).msk (B3.1.dat (hd (i + 1) hi)).msk row3 row2' ?_
      have hle := pairR_le s (i + 1) (vv s (i + 1) k) (vv s i j)
      have fin : ∀ c, c = rsF s i j k → c < 2 ^ 30 → wp_Rm_layBack_153 K7 K13 (wn_Rm_layBack_53 K7 K13 Post (u + 1)) Post 113 (nI i) (nI j) (nI k) (nI c) (Hm m3 l) := by
        intro c hc hc2
        refine lb153 (by omega) (by omega) hc2 (by omega) hv3 ?_
        refine ih (k + 1) _ (by omega) (B3.up (by omega) _) ?_
        rw [up_at, step, hc]
      rw [n_eq0 (by omega)]
      refine ⟨fun z => fin FARN ?_ (by decide), fun z => ⟨gC_Rm _ l, ?_⟩⟩
      · have hok : okM s (i + 1) j k = false := by unfold okM; rw [decide_eq_false_iff_not]; exact z
        unfold rsF; rw [hok]; simp
      · have hok : okM s (i + 1) j k = true := by unfold okM; rw [decide_eq_true_eq]; exact z
        refine sp_Rm_cost (by omega) (by omega) row3 row2' ?_
        have hcs := csM_le (vv_rg hw hi (show k < sz s (i + 1) by omega)) (vv_rg hw (show i < sn s by omega) hj)
        have er3 := B3.2.1 (i + 1) (by omega) hi k (by omega)
        simp only [Option.some.injEq, Sum.inl.injEq, Sum.inr.injEq, Prod.mk.injEq, and_assoc, exists_eq_left', exists_eq_left, exists_and_left, exists_and_right, exists_eq', exists_eq, forall_eq, forall_eq', true_and, and_true, exists_const, Hm_1, gF_Rm_22, gA_Rre, vp_in_nI (show 800 * (i + 1) + k < 9600 by omega) (show 9600 < 2 ^ 31 by decide), er3, nI_add]
        refine fin _ ?_ (by omega)
        unfold rsF; rw [if_pos ⟨by omega, hok⟩]
