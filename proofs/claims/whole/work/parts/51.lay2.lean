theorem VLc_mem (s : SG) (i a b : Nat) : ∀ n c, ∀ t ∈ VLc s i a b c n, alone s i t.1 t.2.1 t.2.2 = 0 := by
  intro n
  induction n with
  | zero => intro c t ht; simp [VLc] at ht
  | succ n ih =>
    intro c t ht
    unfold VLc at ht
    rcases List.mem_append.mp ht with h | h
    · by_cases e : alone s i a b c = 0
      · rw [if_pos e, List.mem_singleton] at h; subst h; exact e
      · rw [if_neg e] at h; cases h
    · exact ih _ t h
theorem VLb_mem (s : SG) (i a : Nat) : ∀ n b, ∀ t ∈ VLb s i a b n, alone s i t.1 t.2.1 t.2.2 = 0 := by
  intro n
  induction n with
  | zero => intro c t ht; simp [VLb] at ht
  | succ n ih =>
    intro c t ht
    unfold VLb at ht
    rcases List.mem_append.mp ht with h | h
    · exact VLc_mem s i _ _ _ _ t h
    · exact ih _ t h
theorem VLa_mem (s : SG) (i : Nat) : ∀ n a, ∀ t ∈ VLa s i a n, alone s i t.1 t.2.1 t.2.2 = 0 := by
  intro n
  induction n with
  | zero => intro c t ht; simp [VLa] at ht
  | succ n ih =>
    intro c t ht
    unfold VLa at ht
    rcases List.mem_append.mp ht with h | h
    · exact VLb_mem s i _ _ _ t h
    · exact ih _ t h
theorem Vk_0 {s : SG} {i k : Nat} (hk : k < sz s i) : alone s i (Vk s i k).1 (Vk s i k).2.1 (Vk s i k).2.2 = 0 := by
  refine VLa_mem s i _ _ _ (?_ : Vk s i k ∈ VL s i)
  unfold Vk
  rw [List.getD_eq_getElem?_getD, List.getElem?_eq_getElem hk]
  exact List.getElem_mem hk
theorem Vk_rg {s : SG} (hw : WF s) {i k : Nat} (hk : k < sz s i) : (Vk s i k).1 ≤ 127 ∧ (Vk s i k).2.1 ≤ 127 ∧ (Vk s i k).2.2 ≤ 127 := by
  have h := ((alone_0 s i _ _ _).mp (Vk_0 hk)).1
  have h0 := hw.2.2.2.2.2.1 0 (by decide)
  have h1 := hw.2.2.2.2.2.1 1 (by decide)
  have h2 := hw.2.2.2.2.2.1 2 (by decide)
  simp only [inR, Bool.and_eq_true, decide_eq_true_eq] at h
  omega
theorem vv_rg {s : SG} (hw : WF s) {i k : Nat} (hi : i < sn s) (hk : k < sz s i) : ∀ v, v < 4 → vv s i k v ≤ 127 := by
  have h := Vk_rg hw hk
  have hd := bN_rg hw hi
  intro v hv
  match v, hv with
  | 0, _ => exact h.1
  | 1, _ => exact h.2.1
  | 2, _ => exact h.2.2
  | 3, _ => show bN s i ≤ 127; omega
def Dat (s : SG) (i : Nat) (mu : Nat → Nat → Int32) : Prop := mu 126 i = tmI s i 8 ∧ mu 127 i = smI s i 8 ∧ mu 128 i = fmI s i 8 ∧ mu 130 i = nI (sz s i) ∧ St i (mu 129) (VL s i)
def S45 (mu mu2 : Nat → Nat → Int32) : Prop := ∀ k, ¬ k = 124 → ¬ k = 125 → mu2 k = mu k
theorem S45.rf (mu : Nat → Nat → Int32) : S45 mu mu := fun _ _ _ => rfl
theorem S45.tr {a b c : Nat → Nat → Int32} (h : S45 a b) (g : S45 b c) : S45 a c := fun k h1 h2 => (g k h1 h2).trans (h k h1 h2)
theorem S45.rb {s : SG} {mu mu2 : Nat → Nat → Int32} (h : S45 mu mu2) (hb : RB s mu) : RB s mu2 := RB_of hb (by rw [h 113 (by decide) (by decide)]) (by rw [h 113 (by decide) (by decide)]) (by rw [h 113 (by decide) (by decide)]) (fun k _ _ => h k (by omega) (by omega))
theorem S45.dat {s : SG} {i : Nat} {mu mu2 : Nat → Nat → Int32} (h : S45 mu mu2) (hd : Dat s i mu) : Dat s i mu2 := by
  unfold Dat at *
  rw [h 126 (by decide) (by decide), h 127 (by decide) (by decide), h 128 (by decide) (by decide), h 129 (by decide) (by decide), h 130 (by decide) (by decide)]
  exact hd
theorem S45.sc {mu mu2 : Nat → Nat → Int32} (h : S45 mu mu2) : SC mu mu2 := fun k hk => h k (by omega) (by omega)
theorem tk {Post : MH → Prop} {s : SG} {m : Nat → Nat → Int32} {l : Nat → Int64} (hb : RB s m) (hw : WF s) {i k : Nat} (hi : i < sn s) (hz : sz s i ≤ 800) (hk : k < sz s i) (hd : Dat s i m) {q : Nat} (hq : Is4 q) (hp : ∀ m2, (∀ r, ¬ r = q → m2 r = m r) → Row m2 q (vv s i k) → Post (Hm m2 l)) : wp_Rm_take Post 113 (nI i) (nI k) q (Hm m l) := by
  refine sp_Rm_take hb hw hi (by omega) hq ?_
  have h := hd.2.2.2.2 k hk
  rw [h.1, h.2.1, h.2.2]
  refine hp _ (fun r hr => set4_k hr) ?_
  exact set4_row (x := vv s i k) (vv_rg hw hi hk)
theorem Dat.msk {s : SG} {i : Nat} {m : Nat → Nat → Int32} (h : Dat s i m) : Msk s m i := ⟨h.2.1, h.2.2.1⟩
theorem lN_t {n : Nat} (h : n < 2 ^ 50) : (lN n).toInt = (n : Int) := lg_ofNat_toInt (by omega)
theorem lg_le (x y : Int64) : lg_cmp x y ≤ 0 ↔ x.toInt ≤ y.toInt := by
  rw [← Int32.not_lt, lg_gt]; omega
theorem lg_leN {a b : Nat} (ha : a < 2 ^ 50) (hb : b < 2 ^ 50) : lg_cmp (lN a) (lN b) ≤ 0 ↔ a ≤ b := by
  rw [lg_le, lN_t ha, lN_t hb]; omega
theorem cap_le (n : Nat) : cap n ≤ 1000000000 := by unfold cap MANYN; split <;> omega
theorem Rw_le (s : SG) (i k : Nat) : Rw s i k ≤ 1000000000 := by
  cases i with
  | zero => unfold Rw; split <;> omega
  | succ i => unfold Rw; exact cap_le _
theorem sumTo_b {f : Nat → Nat} {b : Nat} (h : ∀ k, f k ≤ b) : ∀ n, sumTo f n ≤ n * b := by
  intro n
  induction n with
  | zero => simp [sumTo]
  | succ n ih => unfold sumTo; have := h n; rw [Nat.succ_mul]; omega
theorem lay203 {K20 : Nat → Int32 → MH → Prop} {K37 : Nat → Int32 → Int32 → Int32 → MH → Prop} {Post : MH → Prop} {i k n c : Nat} {sm : Bool} {m : Nat → Nat → Int32} {l : Nat → Int64} (hi : i < 12) (hk : k < 800) (hn : n < 2 ^ 50) (hp : K37 113 (nI i) (bI (sm || decide (0 < n))) (nI (k + 1)) (Hm m (vp_updL l (800 * i + k) (lN c)))) : wp_Rm_lay_203 K20 K37 Post 113 (nI i) (bI sm) (nI k) (lN n) 132 (nI (800 * i + k)) (lN c) (Hm m l) := by
  unfold wp_Rm_lay_203 wp_Rm_lay_215 wp_Rm_lay_220
  have e0 : lg_cmp (lN n) 0 ≤ 0 ↔ n ≤ 0 := lg_leN (b := 0) hn (by decide)
  simp only [Option.some.injEq, Sum.inl.injEq, Sum.inr.injEq, Prod.mk.injEq, and_assoc, exists_eq_left', exists_eq_left, exists_and_left, exists_and_right, exists_eq', exists_eq, forall_eq, forall_eq', true_and, and_true, exists_const, Hm_1, gL_Rro, ms_Rro, vp_in_nI (show 800 * i + k < 9600 by omega) (show 9600 < 2 ^ 31 by decide), nI_clamp (show 800 * i + k < 2 ^ 31 by omega), nI_1, bI_0, e0]
  refine ⟨fun q => ?_, fun q => ⟨fun q2 => ?_, fun q2 => ?_⟩⟩
  · simp only [Bool.not_eq_false] at q; subst q; simpa [bI] using hp
  · subst q; simpa [bI, show ¬ 0 < n by omega] using hp
  · subst q; simpa [bI, show 0 < n by omega] using hp
def rwF (s : SG) (i k : Nat) : Nat → Nat := fun j => if 0 < Rw s i j ∧ okM s (i + 1) j k = true then Rw s i j else 0
theorem rwF_le (s : SG) (i k : Nat) : ∀ j, rwF s i k j ≤ 1000000000 := fun j => by
  have := Rw_le s i j
  unfold rwF; split <;> omega
set_option maxHeartbeats 1000000 in
theorem lay82 {K20 : Nat → Int32 → MH → Prop} {K37 : Nat → Int32 → Int32 → Int32 → MH → Prop} {Post : MH → Prop} {s : SG} {mu : Nat → Nat → Int32} {l : Nat → Int64} (hb : RB s mu) (hw : WF s) (hz : ∀ i, i < sn s → sz s i ≤ 800) {i k : Nat} (hi : i + 1 < sn s) (hk : k < sz s (i + 1)) (hd : Dat s i mu) (hd2 : Dat s (i + 1) mu) (hl : ∀ j, j < sz s i → l (800 * i + j) = lN (Rw s i j)) {sm : Bool} (hp : ∀ m2, S45 mu m2 → K37 113 (nI (i + 1)) (bI (sm || decide (0 < Rw s (i + 1) k))) (nI (k + 1)) (Hm m2 (vp_updL l (800 * (i + 1) + k) (lN (Rw s (i + 1) k))))) : ∀ (j q : Nat) (m : Nat → Nat → Int32), q + j = sz s i → S45 mu m → Row m 124 (vv s (i + 1) k) → wn_Rm_lay_82 K20 K37 Post (j + 1) 113 (nI (i + 1)) (bI sm) (nI k) (lN (sumTo (rwF s i k) q)) (nI q) (Hm m l) := by
  have h12 := hw.n
  have z0 := hz i (by omega)
  have z1 := hz (i + 1) hi
  have hsub : nI (i + 1) - 1 = nI i := n_sub1 (by omega)
  intro j
  induction j with
  | zero =>
    intro q m hq hm hrow
    obtain rfl : q = sz s i := by omega
    have hS := sumTo_b (rwF_le s i k) (sz s i)
    have eR : Rw s (i + 1) k = cap (sumTo (rwF s i k) (sz s i)) := rfl
    generalize sumTo (rwF s i k) (sz s i) = n at hS eR ⊢
    have hn : n < 2 ^ 50 := by omega
    show wb_Rm_lay_82 _ _ _ _ _ _ _ _ _ _ _
    unfold wb_Rm_lay_82
    refine ⟨fun _ => ?_, fun q => absurd q (nI_ne0 (by omega) (by omega))⟩
    unfold wp_Rm_lay_100
    have em : lg_cmp (lN n) 1000000000 ≤ 0 ↔ n ≤ 1000000000 := lg_leN (b := 1000000000) hn (by decide)
    have hd' := hm.dat hd
    simp only [Option.some.injEq, Sum.inl.injEq, Sum.inr.injEq, Prod.mk.injEq, and_assoc, exists_eq_left', exists_eq_left, exists_and_left, exists_and_right, exists_eq', exists_eq, forall_eq, forall_eq', true_and, and_true, exists_const, Hm_1, gF_Rm_21, gF_Rm_23, gA_Rsi, hsub, vp_in_nI (show i < 12 by omega) (show 12 < 2 ^ 31 by decide), nI_clamp (show i < 2 ^ 31 by omega), hd'.2.2.2.1, show (800 : Int32) = nI 800 from rfl, pk_mul, nI_add, em]
    have hp' := hp m hm
    rw [eR] at hp'
    have hpos : decide (0 < cap n) = decide (0 < n) := by
      unfold cap MANYN; split
      · simp; omega
      · rfl
    rw [hpos] at hp'
    refine ⟨fun _ => ⟨fun e => ?_, fun e => ?_⟩, fun e => absurd ((nI_leI (by omega) (by omega)).mpr (Nat.le_refl _)) e⟩
    · rw [show cap n = n by unfold cap MANYN; rw [if_neg (by omega)]] at hp'
      exact lay203 (by omega) (by omega) hn hp'
    · rw [show cap n = 1000000000 by unfold cap MANYN; rw [if_pos (by omega)]] at hp'
      exact lay203 (c := 1000000000) (by omega) (by omega) hn hp'
  | succ j ih =>
    intro q m hq hm hrow
    have hbm := hm.rb hb
    have hdm := hm.dat hd
    have hdm2 := hm.dat hd2
    have hRl := Rw_le s i q
    show wb_Rm_lay_82 _ _ _ _ _ _ _ _ _ _ _
    unfold wb_Rm_lay_82
    refine ⟨fun _ => ?_, fun q => absurd q (nI_ne0 (by omega) (by omega))⟩
    unfold wp_Rm_lay_100 wp_Rm_lay_169 wp_Rm_lay_167 wp_Rm_lay_169
    have e0 : lg_cmp (lN (Rw s i q)) 0 ≤ 0 ↔ Rw s i q ≤ 0 := lg_leN (b := 0) (by omega) (by decide)
    simp only [Option.some.injEq, Sum.inl.injEq, Sum.inr.injEq, Prod.mk.injEq, and_assoc, exists_eq_left', exists_eq_left, exists_and_left, exists_and_right, exists_eq', exists_eq, forall_eq, forall_eq', true_and, and_true, exists_const, Hm_1, gF_Rm_21, gF_Rm_23, gF_Rm_15, gC_Rm, gA_Rsi, gL_Rro, hsub, vp_in_nI (show i < 12 by omega) (show 12 < 2 ^ 31 by decide), nI_clamp (show i < 2 ^ 31 by omega), hdm.2.2.2.1, show (800 : Int32) = nI 800 from rfl, pk_mul, nI_add, vp_in_nI (show 800 * i + q < 9600 by omega) (show 9600 < 2 ^ 31 by decide), nI_clamp (show 800 * i + q < 2 ^ 31 by omega), nI_1, nI_leI (show sz s i < 2 ^ 31 by omega) (show q < 2 ^ 31 by omega), hl q (by omega), e0]
    refine ⟨fun e => absurd e (by omega), fun _ => ⟨fun e => ?_, fun e => ?_⟩⟩
    · have := ih (q + 1) m (by omega) hm hrow
      unfold sumTo at this
      rw [show rwF s i k q = 0 by unfold rwF; rw [if_neg (by omega)]] at this
      exact this
    · refine tk hbm hw (show i < sn s by omega) z0 (show q < sz s i by omega) hdm (Or.inr (Or.inl rfl)) (fun m2 h2 row2 => ?_)
      have hm2 : S45 m m2 := fun r _ g => h2 r g
      have hm3 := hm.tr hm2
      have row1 : Row m2 124 (vv s (i + 1) k) := Row_k hrow (h2 124 (by decide))
      refine ⟨gC_Rm _ l, ?_⟩
      refine sp_Rm_pairRule (i := i + 1) (hm3.rb hb) hw (by omega) (by omega) (hm3.dat hd).msk (hm3.dat hd2).msk row1 row2 ?_
      have hle := pairR_le s (i + 1) (vv s (i + 1) k) (vv s i q)
      have ih' := ih (q + 1) m2 (by omega) hm3 row1
      unfold sumTo at ih'
      simp only [Option.some.injEq, Sum.inl.injEq, Sum.inr.injEq, Prod.mk.injEq, and_assoc, exists_eq_left', exists_eq_left, exists_and_left, exists_and_right, exists_eq', exists_eq, forall_eq, forall_eq', true_and, and_true, exists_const, Hm_1, gF_Rm_23, gL_Rro, vp_in_nI (show 800 * i + q < 9600 by omega) (show 9600 < 2 ^ 31 by decide), hl q (show q < sz s i by omega)]
      rw [n_eq0 (by omega)]
      refine ⟨fun z => ?_, fun z => ?_⟩
      · have hok : okM s (i + 1) q k = false := by unfold okM; rw [decide_eq_false_iff_not]; exact z
        rw [show rwF s i k q = 0 by unfold rwF; rw [hok]; simp] at ih'
        exact ih'
      · have hok : okM s (i + 1) q k = true := by unfold okM; rw [decide_eq_true_eq]; exact z
        rw [show rwF s i k q = Rw s i q by unfold rwF; rw [if_pos ⟨by omega, hok⟩], ← lN_add] at ih'
        exact ih'
