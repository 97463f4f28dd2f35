def S3 (mu m : Nat → Nat → Int32) : Prop := ∀ k, ¬ k = 124 → ¬ k = 125 → ¬ k = 133 → m k = mu k
theorem S3.rf (mu : Nat → Nat → Int32) : S3 mu mu := fun _ _ _ _ => rfl
theorem S3.tr {a b c : Nat → Nat → Int32} (h : S3 a b) (g : S3 b c) : S3 a c := fun k h1 h2 h3 => (g k h1 h2 h3).trans (h k h1 h2 h3)
theorem S3.rb {s : SG} {mu mu2 : Nat → Nat → Int32} (h : S3 mu mu2) (hb : RB s mu) : RB s mu2 := RB_of hb (by rw [h 113 (by decide) (by decide) (by decide)]) (by rw [h 113 (by decide) (by decide) (by decide)]) (by rw [h 113 (by decide) (by decide) (by decide)]) (fun k _ _ => h k (by omega) (by omega) (by omega))
theorem S3.laid {s : SG} {mu mu2 : Nat → Nat → Int32} {l : Nat → Int64} (h : S3 mu mu2) (hd : Laid s mu l) : Laid s mu2 l := by
  unfold Laid at *
  rw [h 126 (by decide) (by decide) (by decide), h 127 (by decide) (by decide) (by decide), h 128 (by decide) (by decide) (by decide), h 129 (by decide) (by decide) (by decide), h 130 (by decide) (by decide) (by decide), h 131 (by decide) (by decide) (by decide), h 113 (by decide) (by decide) (by decide)]
  exact hd
theorem S3.rr {s : SG} {mu mu2 : Nat → Nat → Int32} {l : Nat → Int64} (h : S3 mu mu2) (hd : RR s mu l) : RR s mu2 l := by
  refine ⟨h.rb hd.1, ?_⟩
  rw [h 113 (by decide) (by decide) (by decide)]
  rcases hd.2 with q | ⟨q, g⟩
  · exact Or.inl q
  · exact Or.inr ⟨q, h.laid g⟩
theorem S3.sc {mu mu2 : Nat → Nat → Int32} (h : S3 mu mu2) : SC mu mu2 := fun k hk => h k (by omega) (by omega) (by omega)
theorem Laid.dat {s : SG} {mu : Nat → Nat → Int32} {l : Nat → Int64} (h : Laid s mu l) {i : Nat} (hi : i < sn s) : Dat s i mu := ⟨(h.1 i hi).1, (h.1 i hi).2.1, (h.1 i hi).2.2, (h.2.1 i hi).1, (h.2.1 i hi).2⟩
theorem Laid.rs {s : SG} {mu : Nat → Nat → Int32} {l : Nat → Int64} (h : Laid s mu l) {i k : Nat} (hi : i < sn s) (hk : k < sz s i) : mu 131 (800 * i + k) = nI (RsT s i k) := (h.2.2.1 i hi k hk).2
def o_voicings (s : SG) (i : Int32) : Int32 := if hasC s i then nI (sz s (ix i)) else -1
def o_voicing (s : SG) (i k v : Int32) : Int32 := if hasC s i && inI v 0 2 then (if inI k 0 ((sz s (ix i) : Int) - 1) then nI (vv s (ix i) (ix k) (ix v)) else -1) else -1
theorem rs_voicings {Post : Int32 → MH → Prop} {s : SG} {mu : Nat → Nat → Int32} {l : Nat → Int64} (hr : RR s mu l) (hw : WF s) (hz : ∀ i, i < sn s → sz s i ≤ 800) (x : Int32) (hp : ∀ mu2 l2, RR s mu2 l2 → SC mu mu2 → Post (o_voicings s x) (Hm mu2 l2)) : wp_Rm_voicings Post 113 x (Hm mu l) := by
  have h0 := RR_0 hr 0
  have h12 := hw.n
  have s0 : SC mu (up mu 113 0 0) := SC.up mu (by decide) _ _
  unfold wp_Rm_voicings
  simp only [Option.some.injEq, Sum.inl.injEq, Sum.inr.injEq, Prod.mk.injEq, and_assoc, exists_eq_left', exists_eq_left, exists_and_left, exists_and_right, exists_eq', exists_eq, forall_eq, forall_eq', true_and, and_true, exists_const, Hm_1, gF_Rm_0, fs_Rm_0, gC_Rm, sp_Rm_noChord _ h0.1 hw, bI_0]
  unfold o_voicings at hp
  cases e : hasC s x
  · rw [e] at hp
    exact ⟨fun q => by simp at q, fun _ => hp _ _ h0 s0⟩
  rw [e] at hp
  refine ⟨fun _ => ?_, fun q => by simp at q⟩
  have hx := hasC_ix hw e
  generalize ix x = i at hx hp
  rw [hx.1]
  refine sp_Rm_lay h0 hw hz (fun m2 l2 hr2 _ hL hs => ?_)
  simp only [Option.some.injEq, Sum.inl.injEq, Sum.inr.injEq, Prod.mk.injEq, and_assoc, exists_eq_left', exists_eq_left, exists_and_left, exists_and_right, exists_eq', exists_eq, forall_eq, forall_eq', true_and, and_true, exists_const, Hm_1, gF_Rm_21, gA_Rsi, vp_in_nI (show i < 12 by omega) (show 12 < 2 ^ 31 by decide), nI_clamp (show i < 2 ^ 31 by omega), (hL.dat hx.2).2.2.2.1]
  exact hp _ _ hr2 (s0.tr hs)
theorem vv_m9 {s : SG} {mu : Nat → Nat → Int32} {i k : Nat} (h : Dat s i mu) (hk : k < sz s i) : ∀ v, v < 3 → mu 129 (3 * (800 * i + k) + v) = nI (vv s i k v) := by
  have h3 := h.2.2.2.2 k hk
  intro v hv
  match v, hv with
  | 0, _ => exact h3.1
  | 1, _ => exact h3.2.1
  | 2, _ => exact h3.2.2
theorem rs_voicing {Post : Int32 → MH → Prop} {s : SG} {mu : Nat → Nat → Int32} {l : Nat → Int64} (hr : RR s mu l) (hw : WF s) (hz : ∀ i, i < sn s → sz s i ≤ 800) (x k v : Int32) (hp : ∀ mu2 l2, RR s mu2 l2 → SC mu mu2 → Post (o_voicing s x k v) (Hm mu2 l2)) : wp_Rm_voicing Post 113 x k v (Hm mu l) := by
  have h0 := RR_0 hr 0
  have h12 := hw.n
  have s0 : SC mu (up mu 113 0 0) := SC.up mu (by decide) _ _
  unfold wp_Rm_voicing
  simp only [Option.some.injEq, Sum.inl.injEq, Sum.inr.injEq, Prod.mk.injEq, and_assoc, exists_eq_left', exists_eq_left, exists_and_left, exists_and_right, exists_eq', exists_eq, forall_eq, forall_eq', true_and, and_true, exists_const, Hm_1, gF_Rm_0, fs_Rm_0, gC_Rm, sp_Rm_noChord _ h0.1 hw, sp_in2, bI_0, show ((-7 : Int64)).toInt = -7 from rfl, show ((-1 : Int64)).toInt = -1 from rfl, show ((0 : Int64)).toInt = 0 from rfl, show ((1 : Int64)).toInt = 1 from rfl, show ((2 : Int64)).toInt = 2 from rfl, show ((3 : Int64)).toInt = 3 from rfl, show ((5 : Int64)).toInt = 5 from rfl, show ((6 : Int64)).toInt = 6 from rfl, show ((7 : Int64)).toInt = 7 from rfl, show ((9 : Int64)).toInt = 9 from rfl, show ((14 : Int64)).toInt = 14 from rfl, show ((24 : Int64)).toInt = 24 from rfl, show ((127 : Int64)).toInt = 127 from rfl]
  unfold o_voicing at hp
  cases e : hasC s x
  · rw [e] at hp
    exact ⟨fun _ => hp _ _ h0 s0, fun q => by simp at q⟩
  refine ⟨fun q => absurd rfl q, fun _ => ?_⟩
  cases e2 : inI v 0 2
  · rw [e2, Bool.and_false] at hp
    exact ⟨fun q => absurd rfl q, fun _ => hp _ _ h0 s0⟩
  refine ⟨fun _ => ?_, fun q => by cases q⟩
  rw [e, e2] at hp
  simp only [Bool.and_self, if_true] at hp
  have hx := hasC_ix hw e
  have hv := inI_ix (b := 2) (by decide) e2
  generalize ix x = i at hx hp
  generalize ix v = w at hv hp
  rw [hx.1, hv.1]
  have z0 := hz i hx.2
  refine sp_Rm_lay h0 hw hz (fun m2 l2 hr2 _ hL hs => ?_)
  have hq := hp _ _ hr2 (s0.tr hs)
  have hd := hL.dat hx.2
  have ez : (nI (sz s i) - 1).toInt = (sz s i : Int) - 1 := by rw [iI_n, show (1 : Int32) = iI 1 from rfl, iI_sub, iI_t (by omega) (by omega)]
  simp only [Option.some.injEq, Sum.inl.injEq, Sum.inr.injEq, Prod.mk.injEq, and_assoc, exists_eq_left', exists_eq_left, exists_and_left, exists_and_right, exists_eq', exists_eq, forall_eq, forall_eq', true_and, and_true, exists_const, Hm_1, gF_Rm_21, gF_Rm_20, gA_Rsi, gA_Rpi, vp_in_nI (show i < 12 by omega) (show 12 < 2 ^ 31 by decide), nI_clamp (show i < 2 ^ 31 by omega), hd.2.2.2.1, sp_in2, in64, ez, bI_0, show ((-7 : Int64)).toInt = -7 from rfl, show ((-1 : Int64)).toInt = -1 from rfl, show ((0 : Int64)).toInt = 0 from rfl, show ((1 : Int64)).toInt = 1 from rfl, show ((2 : Int64)).toInt = 2 from rfl, show ((3 : Int64)).toInt = 3 from rfl, show ((5 : Int64)).toInt = 5 from rfl, show ((6 : Int64)).toInt = 6 from rfl, show ((7 : Int64)).toInt = 7 from rfl, show ((9 : Int64)).toInt = 9 from rfl, show ((14 : Int64)).toInt = 14 from rfl, show ((24 : Int64)).toInt = 24 from rfl, show ((127 : Int64)).toInt = 127 from rfl]
  cases e3 : inI k 0 ((sz s i : Int) - 1)
  · rw [e3] at hq
    exact ⟨fun _ => hq, fun q => absurd rfl q⟩
  · rw [e3] at hq
    refine ⟨fun q => (by cases q), fun _ => ?_⟩
    have hk : k = nI (ix k) ∧ ix k < sz s i := by
      unfold inI at e3
      simp only [decide_eq_true_eq] at e3
      exact ix_of (n := sz s i) e3.1 (by omega) (by omega)
    simp only [if_true] at hq
    generalize ix k = kk at hk hq
    rw [hk.1]
    simp only [show (3 : Int32) = nI 3 from rfl, show (800 : Int32) = nI 800 from rfl, pk_mul, nI_add, vp_in_nI (show 3 * (800 * i + kk) + w < 28800 by omega) (show 28800 < 2 ^ 31 by decide), nI_clamp (show 3 * (800 * i + kk) + w < 2 ^ 31 by omega), vv_m9 hd hk.2 w (show w < 3 by omega), true_and]
    exact hq
def bst (f : Nat → Nat) : Nat → Nat × Nat
  | 0 => (FARN, 0)
  | n + 1 => if f n < (bst f n).1 then (f n, n) else bst f n
theorem bst_le (f : Nat → Nat) : ∀ n, (bst f n).1 ≤ 100000000
  | 0 => Nat.le_refl _
  | n + 1 => by have := bst_le f n; unfold bst; split <;> simp <;> omega
theorem bst_lt (f : Nat → Nat) : ∀ n, 0 < n → (bst f n).2 < n
  | 1, _ => by unfold bst; split <;> simp [bst]
  | n + 2, _ => by have := bst_lt f (n + 1) (by omega); unfold bst; split <;> simp <;> omega
def b0 (s : SG) (k : Nat) : Nat := if RsT s 0 k < FARN ∧ okS s k = true then csH s (vv s 0 k) + RsT s 0 k else FARN
def bM (s : SG) (i : Nat) (y : Nat → Nat) (k : Nat) : Nat := if RsT s i k < FARN ∧ pairR s i (vv s i k) y = 0 then csM (vv s i k) y + RsT s i k else FARN
def bF (s : SG) (i : Nat) (y : Nat → Nat) : Nat → Nat := if i = 0 then b0 s else bM s i y
theorem be81 {K9 : Nat → Int32 → Nat → Int32 → Int32 → Int32 → MH → Prop} {Post : Int32 → MH → Prop} {i q k c : Nat} {f : Nat → Nat} {h : MH} (hc : c = f k) (hc2 : c < 2 ^ 30) (hp : K9 113 (nI i) q (nI (bst f (k + 1)).1) (nI (bst f (k + 1)).2) (nI (k + 1)) h) : wp_Rm_best_81 K9 Post 113 (nI i) q (nI (bst f k).1) (nI (bst f k).2) (nI k) (nI c) h := by
  have hb := bst_le f k
  unfold wp_Rm_best_81 wp_Rm_best_96
  rw [nI_leI (by omega) (by omega), nI_1]
  unfold bst at hp
  refine ⟨fun e => ?_, fun e => ?_⟩
  · rw [if_neg (by omega)] at hp; exact hp
  · rw [if_pos (by omega)] at hp; rw [hc]; exact hp
set_option maxHeartbeats 1000000 in
theorem sp_Rm_best {Post : Int32 → MH → Prop} {s : SG} {mu : Nat → Nat → Int32} {l : Nat → Int64} (hb : RB s mu) (hw : WF s) (hz : ∀ i, i < sn s → sz s i ≤ 800) (hL : Laid s mu l) {i : Nat} (hi : i < sn s) (hs : 0 < sz s i) {y : Nat → Nat} (hy : ¬ i = 0 → Row mu 125 y) (hp : ∀ m2, (∀ k, ¬ k = 124 → ¬ k = 133 → m2 k = mu k) → Row m2 133 (vv s i (bst (bF s i y) (sz s i)).2) → Post (nI (bst (bF s i y) (sz s i)).1) (Hm m2 l)) : wp_Rm_best Post 113 (nI i) 133 (Hm mu l) := by
  have h12 := hw.n
  have z0 := hz i hi
  have hF : FARN = 100000000 := rfl
  have key : ∀ (u k : Nat) (m : Nat → Nat → Int32), k + u = sz s i → (∀ q, ¬ q = 124 → m q = mu q) → wn_Rm_best_9 Post (u + 1) 113 (nI i) 133 (nI (bst (bF s i y) k).1) (nI (bst (bF s i y) k).2) (nI k) (Hm m l) := by
    intro u
    induction u with
    | zero =>
      intro k m hk hm
      obtain rfl : k = sz s i := by omega
      have h3 : S3 mu m := fun k h1 _ _ => hm k h1
      have hd := (h3.laid hL).dat hi
      show wb_Rm_best_9 _ _ _ _ _ _ _ _ _
      unfold wb_Rm_best_9
      simp only [Option.some.injEq, Sum.inl.injEq, Sum.inr.injEq, Prod.mk.injEq, and_assoc, exists_eq_left', exists_eq_left, exists_and_left, exists_and_right, exists_eq', exists_eq, forall_eq, forall_eq', true_and, and_true, exists_const, Hm_1, gF_Rm_21, gC_Rm, gA_Rsi, vp_in_nI (show i < 12 by omega) (show 12 < 2 ^ 31 by decide), nI_clamp (show i < 2 ^ 31 by omega), hd.2.2.2.1, nI_leI (show sz s i < 2 ^ 31 by omega) (show sz s i < 2 ^ 31 by omega)]
      refine ⟨fun _ => ?_, fun e => absurd (Nat.le_refl _) e⟩
      refine tk (h3.rb hb) hw hi z0 (bst_lt _ _ hs) hd (Or.inr (Or.inr rfl)) (fun m2 h2 row => hp m2 (fun k g1 g2 => ?_) row)
      rw [h2 k g2, hm k g1]
    | succ u ih =>
      intro k m hk hm
      have h3 : S3 mu m := fun k h1 _ _ => hm k h1
      have hd := (h3.laid hL).dat hi
      show wb_Rm_best_9 _ _ _ _ _ _ _ _ _
      unfold wb_Rm_best_9
      simp only [Option.some.injEq, Sum.inl.injEq, Sum.inr.injEq, Prod.mk.injEq, and_assoc, exists_eq_left', exists_eq_left, exists_and_left, exists_and_right, exists_eq', exists_eq, forall_eq, forall_eq', true_and, and_true, exists_const, Hm_1, gF_Rm_21, gF_Rm_14, gC_Rm, gA_Rsi, vp_in_nI (show i < 12 by omega) (show 12 < 2 ^ 31 by decide), nI_clamp (show i < 2 ^ 31 by omega), hd.2.2.2.1, nI_leI (show sz s i < 2 ^ 31 by omega) (show k < 2 ^ 31 by omega)]
      refine ⟨fun e => absurd e (by omega), fun _ => ?_⟩
      refine tk (h3.rb hb) hw hi z0 (show k < sz s i by omega) hd (Or.inl rfl) (fun m2 h2 row => ?_)
      have hm2 : ∀ q, ¬ q = 124 → m2 q = mu q := fun q hq => by rw [h2 q hq, hm q hq]
      have h32 : S3 mu m2 := fun k h1 _ _ => hm2 k h1
      have hL2 := h32.laid hL
      have hd2 := hL2.dat hi
      have er := hL2.rs hi (show k < sz s i by omega)
      have hRk := RsT_le s i k
      have ih' := ih (k + 1) m2 (by omega) hm2
      unfold wp_Rm_best_79
      simp only [Option.some.injEq, Sum.inl.injEq, Sum.inr.injEq, Prod.mk.injEq, and_assoc, exists_eq_left', exists_eq_left, exists_and_left, exists_and_right, exists_eq', exists_eq, forall_eq, forall_eq', true_and, and_true, exists_const, Hm_1, gF_Rm_22, gC_Rm, gA_Rre, show (800 : Int32) = nI 800 from rfl, pk_mul, nI_add, vp_in_nI (show 800 * i + k < 9600 by omega) (show 9600 < 2 ^ 31 by decide), nI_clamp (show 800 * i + k < 2 ^ 31 by omega), er, farI, nI_leI (show FARN < 2 ^ 31 by decide) (show RsT s i k < 2 ^ 31 by omega)]
      by_cases ei : i = 0
      · subst ei
        have hbF : bF s 0 y = b0 s := rfl
        refine ⟨fun e => be81 ?_ (by decide) ih', fun e => ?_⟩
        · rw [hbF]; unfold b0; rw [if_neg (by omega)]
        · refine sp_Rm_pair0 hd2.msk row ?_
          have hle := pair0_le s (vv s 0 k)
          rw [n_eq0 (by omega)]
          refine ⟨fun z => be81 ?_ (by decide) ih', fun z => ⟨gC_Rm _ l, ?_⟩⟩
          · rw [hbF]; unfold b0 okS; rw [decide_eq_false z]; simp
          · refine sp_Rm_cost0 (h32.rb hb) hw row ?_
            have hcs := csH_le hw (vv_rg hw hi (show k < sz s 0 by omega))
            simp only [Option.some.injEq, Sum.inl.injEq, Sum.inr.injEq, Prod.mk.injEq, and_assoc, exists_eq_left', exists_eq_left, exists_and_left, exists_and_right, exists_eq', exists_eq, forall_eq, forall_eq', true_and, and_true, exists_const, Hm_1, gF_Rm_22, gA_Rre, vp_in_nI (show 800 * 0 + k < 9600 by omega) (show 9600 < 2 ^ 31 by decide), er, nI_add]
            refine be81 ?_ (by omega) ih'
            rw [hbF]; unfold b0 okS; rw [decide_eq_true z, if_pos ⟨by omega, rfl⟩]
      · have hbF : bF s i y = bM s i y := if_neg ei
        have hy2 : Row m2 125 y := Row_k (hy ei) (hm2 125 (by decide))
        refine ⟨fun e => be81 ?_ (by decide) ih', fun e => ?_⟩
        · rw [hbF]; unfold bM; rw [if_neg (by omega)]
        · refine sp_Rm_pairRule (h32.rb hb) hw (by omega) (by omega) (hL2.dat (show i - 1 < sn s by omega)).msk hd2.msk row hy2 ?_
          have hle := pairR_le s i (vv s i k) y
          rw [n_eq0 (by omega)]
          refine ⟨fun z => be81 ?_ (by decide) ih', fun z => ⟨gC_Rm _ l, ?_⟩⟩
          · rw [hbF]; unfold bM; rw [if_neg (fun q => z q.2)]
          · refine sp_Rm_cost (by omega) (by omega) row hy2 ?_
            have hcs := csM_le (vv_rg hw hi (show k < sz s i by omega)) (fun v hv => (hy ei v hv).2)
            simp only [Option.some.injEq, Sum.inl.injEq, Sum.inr.injEq, Prod.mk.injEq, and_assoc, exists_eq_left', exists_eq_left, exists_and_left, exists_and_right, exists_eq', exists_eq, forall_eq, forall_eq', true_and, and_true, exists_const, Hm_1, gF_Rm_22, gA_Rre, vp_in_nI (show 800 * i + k < 9600 by omega) (show 9600 < 2 ^ 31 by decide), er, nI_add]
            refine be81 ?_ (by omega) ih'
            rw [hbF]; unfold bM; rw [if_pos ⟨by omega, z⟩]
  exact ⟨_, key (sz s i) 0 mu (by omega) (fun _ _ => rfl)⟩
