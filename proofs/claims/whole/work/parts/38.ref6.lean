def dm (a b : Nat) : Nat := (((a : Int) - (b : Int)) % 12).toNat
theorem mod_tab2 : ∀ j : Nat, j < 255 → ((iI ((j : Int) - 127) - iI ((j : Int) - 127) / 12 * 12) + 12) - ((iI ((j : Int) - 127) - iI ((j : Int) - 127) / 12 * 12) + 12) / 12 * 12 = nI ((((j : Int) - 127) % 12).toNat) := by decide +kernel
theorem sp_dm (Post : Int32 → MH → Prop) {a b : Nat} (ha : a ≤ 127) (hb : b ≤ 127) (h : MH) : wp_Rm_mod Post (nI a - nI b) 12 h ↔ Post (nI (dm a b)) h := by
  unfold wp_Rm_mod
  rw [iI_n a, iI_n b, iI_sub]
  have := mod_tab2 ((a : Int) - b + 127).toNat (by omega)
  rw [show (((((a : Int) - b + 127).toNat : Nat) : Int)) - 127 = (a : Int) - b by omega] at this
  rw [this]
  have e : ¬ (12 : Int32) = 0 := by decide
  simp only [e, not_false_eq_true, true_and]
  rfl
theorem dm_lt (a b : Nat) : dm a b < 12 := by unfold dm; omega
def prl (x y : Nat → Nat) (u v : Nat) : Bool := decide (¬ y u = x u) && decide (¬ y v = x v) && decide (dm (y u) (y v) = dm (x u) (x v)) && (decide (dm (y u) (y v) = 0) || decide (dm (y u) (y v) = 7))
def Bef (mu : Nat → Nat → Int32) (a b c d : Nat) : Prop := mu 125 0 = nI a ∧ mu 125 1 = nI b ∧ mu 125 2 = nI c ∧ mu 125 3 = nI d
def Row (mu : Nat → Nat → Int32) (k : Nat) (x : Nat → Nat) : Prop := ∀ v, v < 4 → mu k v = nI (x v) ∧ x v ≤ 127
theorem sp_Rm_isParallel (Post : Int32 → MH → Prop) {mu : Nat → Nat → Int32} {x y : Nat → Nat} (hx : Row mu 124 x) (hy : Row mu 125 y) {u v : Nat} (hu : u < 4) (hv : v < 4) (l : Nat → Int64) : wp_Rm_isParallel Post 113 (nI u) (nI v) (Hm mu l) ↔ Post (bI (prl x y u v)) (Hm mu l) := by
  have xu := hx u hu
  have xv := hx v hv
  have yu := hy u hu
  have yv := hy v hv
  have d1 := dm_lt (y u) (y v)
  have d2 := dm_lt (x u) (x v)
  unfold wp_Rm_isParallel
  simp only [Option.some.injEq, Sum.inl.injEq, Sum.inr.injEq, Prod.mk.injEq, and_assoc, exists_eq_left', exists_eq_left, exists_and_left, exists_and_right, exists_eq', exists_eq, forall_eq, forall_eq', true_and, and_true, exists_const, Hm_1, gC_Rm, gF_Rm_0, fs_Rm_0, gF_Rm_1, fs_Rm_1, gF_Rm_2, fs_Rm_2, gF_Rm_3, gF_Rm_4, gF_Rm_5, gF_Rm_6, gF_Rm_7, gF_Rm_8, gF_Rm_9, gF_Rm_10, fs_Rm_10, gF_Rm_11, gF_Rm_12, gF_Rm_13, gF_Rm_14, gF_Rm_15, gF_Rm_16, gF_Rm_17, gF_Rm_18, gF_Rm_19, fs_Rm_19, gF_Rm_20, gF_Rm_21, gF_Rm_22, gF_Rm_23, gF_Rm_24, fs_Rm_24, gF_Rm_25, gA_Rle, ms_Rle, gA_Roc, ms_Roc, gA_Ral, ms_Ral, gA_Rto, ms_Rto, gA_Rlo, ms_Rlo, gA_Rhi, ms_Rhi, gA_Rho, ms_Rho, gA_Rgi, ms_Rgi, gA_Rha, ms_Rha, gA_Ris, ms_Ris, gA_Rno, ms_Rno, gA_Rbe, ms_Rbe, gA_Rtn, ms_Rtn, gA_Rsu, ms_Rsu, gA_Rfa, ms_Rfa, gA_Rpi, ms_Rpi, gA_Rsi, ms_Rsi, gA_Rre, ms_Rre, gL_Rro, ms_Rro, gA_Rch, ms_Rch, vp_in_nI hu (show 4 < 2 ^ 31 by omega), vp_in_nI hv (show 4 < 2 ^ 31 by omega), nI_clamp (show u < 2 ^ 31 by omega), nI_clamp (show v < 2 ^ 31 by omega), xu.1, xv.1, yu.1, yv.1, sp_dm _ yu.2 yv.2, sp_dm _ xu.2 xv.2]
  simp only [nI_eq (show y u < 2 ^ 31 by omega) (show x u < 2 ^ 31 by omega), nI_eq (show y v < 2 ^ 31 by omega) (show x v < 2 ^ 31 by omega), nI_eq (show dm (y u) (y v) < 2 ^ 31 by omega) (show dm (x u) (x v) < 2 ^ 31 by omega), n_eq0 (show dm (y u) (y v) < 2 ^ 31 by omega), show (7 : Int32) = nI 7 from rfl, nI_eq (show dm (y u) (y v) < 2 ^ 31 by omega) (show 7 < 2 ^ 31 by omega), pf1, pf2]
  refine iff_of_eq (congrArg (fun z => Post z (Hm mu l)) ?_)
  unfold prl bI
  by_cases e1 : y u = x u
  · simp [e1]
  · by_cases e2 : y v = x v
    · simp [e1, e2]
    · by_cases e3 : dm (y u) (y v) = dm (x u) (x v)
      · by_cases e4 : dm (x u) (x v) = 0
        · simp [e1, e2, e3, e4]
        · by_cases e5 : dm (x u) (x v) = 7 <;> simp [e1, e2, e3, e4, e5]
      · simp [e1, e2, e3]
def down (x y : Nat) : Bool := decide (x + 1 = y) || decide (x + 2 = y)
def hld (s : SG) (i : Nat) (x y : Nat → Nat) (v : Nat) : Bool := has1 (smI s i 8) (x v % 12) && (decide (i = 0) || decide (¬ x v = y v))
def fls (s : SG) (i : Nat) (x y : Nat → Nat) (v : Nat) : Bool := (has1 (smI s (i - 1) 8) (y v % 12) && !down (x v) (y v)) || (has1 (fmI s (i - 1) 8) (y v % 12) && !down (x v) (y v) && decide (¬ x v = y v))
theorem bI_t : bI true = 1 := rfl
theorem bI_f : bI false = 0 := rfl
theorem by_0 {a b : Nat} (ha : a ≤ 127) (hb : b ≤ 127) : nI a - nI b = 0 ↔ a = b := by
  rw [i_eq, pk_sub_toInt (by omega) (by omega), show ((0 : Int32)).toInt = 0 from rfl]; omega
theorem by_1 {a b : Nat} (ha : a ≤ 127) (hb : b ≤ 127) : nI a - nI b = -1 ↔ a + 1 = b := by
  rw [i_eq, pk_sub_toInt (by omega) (by omega), show ((-1 : Int32)).toInt = -1 from rfl]; omega
theorem by_2 {a b : Nat} (ha : a ≤ 127) (hb : b ≤ 127) : nI a - nI b = -2 ↔ a + 2 = b := by
  rw [i_eq, pk_sub_toInt (by omega) (by omega), show ((-2 : Int32)).toInt = -2 from rfl]; omega
theorem pr113_step {K56 : Nat → Int32 → Int32 → Int32 → Int32 → Int32 → MH → Prop} {K : Nat → Int32 → Int32 → Int32 → Int32 → Int32 → Int32 → Int32 → Int32 → MH → Prop} {Post : Int32 → MH → Prop} {mu : Nat → Nat → Int32} {x y : Nat → Nat} (hx : Row mu 124 x) (hy : Row mu 125 y) {i : Nat} (h0 : 0 < i) (hi : i < 2 ^ 31) {l : Nat → Int64} {p : Bool} {l3 l4 l6 l7 : Int32} {v u : Nat} (hv : v < 4) (hu : u < 4) (hk : K 113 (nI i) (bI (p || prl x y v u)) l3 l4 (nI v) l6 l7 (nI (u + 1)) (Hm mu l)) : wb_Rm_pairRule_113 K56 K Post 113 (nI i) (bI p) l3 l4 (nI v) l6 l7 (nI u) (Hm mu l) := by
  unfold wb_Rm_pairRule_113 wp_Rm_pairRule_138 wp_Rm_pairRule_142 wp_Rm_pairRule_143
  refine ⟨fun h => absurd h (nI_ge hu (by decide)), fun _ => ?_⟩
  simp only [gC_Rm, true_and, bI_0, n_le0 hi, sp_Rm_isParallel _ hx hy hv hu l, nI_1]
  cases p
  · refine ⟨fun h => absurd rfl h, fun _ => ⟨fun h => by omega, fun _ => ?_⟩⟩
    rw [Bool.false_or] at hk
    cases hp : prl x y v u
    · rw [hp] at hk; exact ⟨fun _ => hk, fun h => absurd rfl h⟩
    · rw [hp] at hk; exact ⟨fun h => (by cases h), fun _ => hk⟩
  · exact ⟨fun _ => hk, fun h => (by cases h)⟩
def Msk (s : SG) (mu : Nat → Nat → Int32) (i : Nat) : Prop := mu 127 i = smI s i 8 ∧ mu 128 i = fmI s i 8
theorem pr_end {K56 : Nat → Int32 → Int32 → Int32 → Int32 → Int32 → MH → Prop} {Post : Int32 → MH → Prop} {i v : Nat} {l : Nat → Int64} {mu : Nat → Nat → Int32} {p h b : Bool} (hk : K56 113 (nI i) (bI p) (bI h) (bI b) (nI (v + 1)) (Hm mu l)) : (b = false → wp_Rm_pairRule_267 K56 Post 113 (nI i) (bI p) (bI h) (nI v) (Hm mu l)) ∧ (b = true → wp_Rm_pairRule_263 K56 Post 113 (nI i) (bI p) (bI h) (nI v) (Hm mu l)) := by
  unfold wp_Rm_pairRule_267 wp_Rm_pairRule_263 wp_Rm_pairRule_268
  rw [nI_1]
  refine ⟨fun e => ?_, fun e => ?_⟩
  · rw [e] at hk; exact hk
  · rw [e] at hk; exact hk
theorem pr233 {K56 : Nat → Int32 → Int32 → Int32 → Int32 → Int32 → MH → Prop} {Post : Int32 → MH → Prop} {s : SG} {mu : Nat → Nat → Int32} {i : Nat} (h0 : 0 < i) (hi : i < 12) (hm : Msk s mu (i - 1)) {l : Nat → Int64} {p h : Bool} {v a b : Nat} (ha : a ≤ 127) (hb : b ≤ 127) (hk : K56 113 (nI i) (bI p) (bI h) (bI (has1 (fmI s (i - 1) 8) (b % 12) && !down a b && decide (¬ a = b))) (nI (v + 1)) (Hm mu l)) : wp_Rm_pairRule_233 K56 Post 113 (nI i) (bI p) (bI h) (nI v) (nI a - nI b) (bI (down a b)) (nI (b % 12)) (Hm mu l) := by
  obtain ⟨E0, E1⟩ := pr_end (Post := Post) hk
  unfold wp_Rm_pairRule_233
  refine ⟨fun q => absurd q (nI_nle h0 (by omega)), fun _ => ?_⟩
  simp only [Option.some.injEq, Sum.inl.injEq, Sum.inr.injEq, Prod.mk.injEq, and_assoc, exists_eq_left', exists_eq_left, exists_and_left, exists_and_right, exists_eq', exists_eq, forall_eq, forall_eq', true_and, and_true, exists_const, Hm_1, gC_Rm, gF_Rm_0, fs_Rm_0, gF_Rm_1, fs_Rm_1, gF_Rm_2, fs_Rm_2, gF_Rm_3, gF_Rm_4, gF_Rm_5, gF_Rm_6, gF_Rm_7, gF_Rm_8, gF_Rm_9, gF_Rm_10, fs_Rm_10, gF_Rm_11, gF_Rm_12, gF_Rm_13, gF_Rm_14, gF_Rm_15, gF_Rm_16, gF_Rm_17, gF_Rm_18, gF_Rm_19, fs_Rm_19, gF_Rm_20, gF_Rm_21, gF_Rm_22, gF_Rm_23, gF_Rm_24, fs_Rm_24, gF_Rm_25, gA_Rle, ms_Rle, gA_Roc, ms_Roc, gA_Ral, ms_Ral, gA_Rto, ms_Rto, gA_Rlo, ms_Rlo, gA_Rhi, ms_Rhi, gA_Rho, ms_Rho, gA_Rgi, ms_Rgi, gA_Rha, ms_Rha, gA_Ris, ms_Ris, gA_Rno, ms_Rno, gA_Rbe, ms_Rbe, gA_Rtn, ms_Rtn, gA_Rsu, ms_Rsu, gA_Rfa, ms_Rfa, gA_Rpi, ms_Rpi, gA_Rsi, ms_Rsi, gA_Rre, ms_Rre, gL_Rro, ms_Rro, gA_Rch, ms_Rch, n_sub1 (show 1 ≤ i by omega), vp_in_nI (show i - 1 < 12 by omega) (show 12 < 2 ^ 31 by omega), nI_clamp (show i - 1 < 2 ^ 31 by omega), hm.2, sp_Rm_has, bI_0, by_0 ha hb]
  refine ⟨fun e => E0 (by simp [e]), fun e => ⟨fun d => E0 (by simp at d; simp [d]), fun d => ⟨fun q => E0 (by simp [q]), fun q => E1 (by simp at e; simp [e, d, q])⟩⟩⟩
theorem pr190 {K56 : Nat → Int32 → Int32 → Int32 → Int32 → Int32 → MH → Prop} {Post : Int32 → MH → Prop} {s : SG} {mu : Nat → Nat → Int32} {i : Nat} (h0 : 0 < i) (hi : i < 12) (hm : Msk s mu (i - 1)) {x y : Nat → Nat} (hx : Row mu 124 x) (hy : Row mu 125 y) {l : Nat → Int64} {p h f : Bool} {v : Nat} (hv : v < 3) (hk : K56 113 (nI i) (bI p) (bI h) (bI (f || fls s i x y v)) (nI (v + 1)) (Hm mu l)) : wp_Rm_pairRule_190 K56 Post 113 (nI i) (bI p) (bI f) (nI v) (nI (x v) - nI (y v)) (bI (down (x v) (y v))) (bI h) (Hm mu l) := by
  have xv := hx v (by omega)
  have yv := hy v (by omega)
  obtain ⟨E0, E1⟩ := pr_end (Post := Post) hk
  unfold wp_Rm_pairRule_190
  simp only [Option.some.injEq, Sum.inl.injEq, Sum.inr.injEq, Prod.mk.injEq, and_assoc, exists_eq_left', exists_eq_left, exists_and_left, exists_and_right, exists_eq', exists_eq, forall_eq, forall_eq', true_and, and_true, exists_const, Hm_1, gC_Rm, gF_Rm_0, fs_Rm_0, gF_Rm_1, fs_Rm_1, gF_Rm_2, fs_Rm_2, gF_Rm_3, gF_Rm_4, gF_Rm_5, gF_Rm_6, gF_Rm_7, gF_Rm_8, gF_Rm_9, gF_Rm_10, fs_Rm_10, gF_Rm_11, gF_Rm_12, gF_Rm_13, gF_Rm_14, gF_Rm_15, gF_Rm_16, gF_Rm_17, gF_Rm_18, gF_Rm_19, fs_Rm_19, gF_Rm_20, gF_Rm_21, gF_Rm_22, gF_Rm_23, gF_Rm_24, fs_Rm_24, gF_Rm_25, gA_Rle, ms_Rle, gA_Roc, ms_Roc, gA_Ral, ms_Ral, gA_Rto, ms_Rto, gA_Rlo, ms_Rlo, gA_Rhi, ms_Rhi, gA_Rho, ms_Rho, gA_Rgi, ms_Rgi, gA_Rha, ms_Rha, gA_Ris, ms_Ris, gA_Rno, ms_Rno, gA_Rbe, ms_Rbe, gA_Rtn, ms_Rtn, gA_Rsu, ms_Rsu, gA_Rfa, ms_Rfa, gA_Rpi, ms_Rpi, gA_Rsi, ms_Rsi, gA_Rre, ms_Rre, gL_Rro, ms_Rro, gA_Rch, ms_Rch, vp_in_nI (show v < 4 by omega) (show 4 < 2 ^ 31 by omega), nI_clamp (show v < 2 ^ 31 by omega), yv.1, rem12 (show y v < 2 ^ 31 by omega), bI_0]
  refine ⟨fun q => E1 (by simp at q; simp [q]), fun q => ⟨fun e => absurd e (nI_nle h0 (by omega)), fun _ => ?_⟩⟩
  simp only [n_sub1 (show 1 ≤ i by omega), vp_in_nI (show i - 1 < 12 by omega) (show 12 < 2 ^ 31 by omega), nI_clamp (show i - 1 < 2 ^ 31 by omega), hm.1, sp_Rm_has, bI_0, true_and]
  subst q
  rw [Bool.false_or] at hk
  unfold fls at hk E1
  refine ⟨fun e => pr233 h0 hi hm xv.2 yv.2 (by simpa [e] using hk), fun e => ⟨fun d => E1 (by simp at e; simp [e, d]), fun d => pr233 h0 hi hm xv.2 yv.2 (by simp at d; simpa [d] using hk)⟩⟩
theorem pr113_exit {K56 : Nat → Int32 → Int32 → Int32 → Int32 → Int32 → MH → Prop} {K : Nat → Int32 → Int32 → Int32 → Int32 → Int32 → Int32 → Int32 → Int32 → MH → Prop} {Post : Int32 → MH → Prop} {s : SG} {mu : Nat → Nat → Int32} {i : Nat} (h0 : 0 < i) (hi : i < 12) (hm : Msk s mu (i - 1)) (hm2 : Msk s mu i) {x y : Nat → Nat} (hx : Row mu 124 x) (hy : Row mu 125 y) {l : Nat → Int64} {p h f : Bool} {v : Nat} (hv : v < 3) (hk : K56 113 (nI i) (bI p) (bI (h || hld s i x y v)) (bI (f || fls s i x y v)) (nI (v + 1)) (Hm mu l)) : wb_Rm_pairRule_113 K56 K Post 113 (nI i) (bI p) (bI h) (bI f) (nI v) (nI (x v) - nI (y v)) (bI (down (x v) (y v))) (nI 4) (Hm mu l) := by
  have xv := hx v (by omega)
  have yv := hy v (by omega)
  have E : ∀ b : Bool, b = (h || hld s i x y v) → wp_Rm_pairRule_190 K56 Post 113 (nI i) (bI p) (bI f) (nI v) (nI (x v) - nI (y v)) (bI (down (x v) (y v))) (bI b) (Hm mu l) := fun b e => by rw [e]; exact pr190 h0 hi hm hx hy hv hk
  unfold wb_Rm_pairRule_113 wp_Rm_pairRule_185 wp_Rm_pairRule_189
  refine ⟨fun _ => ⟨fun q => E true (by simp [bI_0] at q; simp [q]), fun q => ?_⟩, fun q => absurd (by decide) q⟩
  rw [bI_0] at q
  simp only [Option.some.injEq, Sum.inl.injEq, Sum.inr.injEq, Prod.mk.injEq, and_assoc, exists_eq_left', exists_eq_left, exists_and_left, exists_and_right, exists_eq', exists_eq, forall_eq, forall_eq', true_and, and_true, exists_const, Hm_1, gC_Rm, gF_Rm_0, fs_Rm_0, gF_Rm_1, fs_Rm_1, gF_Rm_2, fs_Rm_2, gF_Rm_3, gF_Rm_4, gF_Rm_5, gF_Rm_6, gF_Rm_7, gF_Rm_8, gF_Rm_9, gF_Rm_10, fs_Rm_10, gF_Rm_11, gF_Rm_12, gF_Rm_13, gF_Rm_14, gF_Rm_15, gF_Rm_16, gF_Rm_17, gF_Rm_18, gF_Rm_19, fs_Rm_19, gF_Rm_20, gF_Rm_21, gF_Rm_22, gF_Rm_23, gF_Rm_24, fs_Rm_24, gF_Rm_25, gA_Rle, ms_Rle, gA_Roc, ms_Roc, gA_Ral, ms_Ral, gA_Rto, ms_Rto, gA_Rlo, ms_Rlo, gA_Rhi, ms_Rhi, gA_Rho, ms_Rho, gA_Rgi, ms_Rgi, gA_Rha, ms_Rha, gA_Ris, ms_Ris, gA_Rno, ms_Rno, gA_Rbe, ms_Rbe, gA_Rtn, ms_Rtn, gA_Rsu, ms_Rsu, gA_Rfa, ms_Rfa, gA_Rpi, ms_Rpi, gA_Rsi, ms_Rsi, gA_Rre, ms_Rre, gL_Rro, ms_Rro, gA_Rch, ms_Rch, vp_in_nI (show v < 4 by omega) (show 4 < 2 ^ 31 by omega), vp_in_nI hi (show 12 < 2 ^ 31 by omega), nI_clamp (show v < 2 ^ 31 by omega), nI_clamp (show i < 2 ^ 31 by omega), xv.1, hm2.1, rem12 (show x v < 2 ^ 31 by omega), sp_Rm_has, bI_0, n_eq0 (show i < 2 ^ 31 by omega), by_0 xv.2 yv.2]
  unfold hld at E
  refine ⟨fun e => E false (by simp [q, e]), fun e => ⟨fun z => by omega, fun _ => ⟨fun z => E false (by simp [q, z]; omega), fun z => E true (by simp at e; simp [q, e, z])⟩⟩⟩
