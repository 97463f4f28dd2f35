theorem failT_neg {s : SG} : ∀ {n : Nat}, failT s n < 0 → ∀ i, i < n → some1 s i = true
  | 0, _, i, hi => absurd hi (by omega)
  | n + 1, h, i, hi => by
    rw [failT_s] at h
    by_cases c : failT s n < 0
    · rw [if_pos c] at h
      by_cases e : some1 s n = true
      · by_cases q : i = n
        · rw [q]; exact e
        · exact failT_neg c i (by omega)
      · rw [if_neg e] at h; omega
    · rw [if_neg c] at h; omega
theorem anyTo_pos {p : Nat → Bool} : ∀ {n : Nat}, anyTo p n = true → 0 < n
  | 0, h => by cases h
  | n + 1, _ => by omega
theorem some1_sz {s : SG} {i : Nat} (h : some1 s i = true) : 0 < sz s i := anyTo_pos h
def ch (s : SG) : Nat → Nat
  | 0 => (bst (b0 s) (sz s 0)).2
  | i + 1 => (bst (bM s (i + 1) (vv s i (ch s i))) (sz s (i + 1))).2
def o_solve (s : SG) : Int32 := if sn s = 0 then -2 else if failT s (sn s) < 0 then nI (bst (b0 s) (sz s 0)).1 else iI (-10 - failT s (sn s))
def o_note (s : SG) (i v : Int32) : Int32 := if hasC s i && inI v 0 2 then (if failT s (sn s) < 0 then nI (vv s (ix i) (ch s (ix i)) (ix v)) else -2) else -1
def o_many (s : SG) : Int32 := if sn s = 0 then -2 else nI (cap (sumTo (Rw s (sn s - 1)) (sz s (sn s - 1))))
theorem rs_solve {Post : Int32 → MH → Prop} {s : SG} {mu : Nat → Nat → Int32} {l : Nat → Int64} (hr : RR s mu l) (hw : WF s) (hz : ∀ i, i < sn s → sz s i ≤ 800) (hp : ∀ mu2 l2, RR s mu2 l2 → SC mu mu2 → Post (o_solve s) (Hm mu2 l2)) : wp_Rm_solve Post 113 (Hm mu l) := by
  have h0 := RR_0 hr 0
  have h12 := hw.n
  have s0 : SC mu (up mu 113 0 0) := SC.up mu (by decide) _ _
  unfold wp_Rm_solve
  simp only [Option.some.injEq, Sum.inl.injEq, Sum.inr.injEq, Prod.mk.injEq, and_assoc, exists_eq_left', exists_eq_left, exists_and_left, exists_and_right, exists_eq', exists_eq, forall_eq, forall_eq', true_and, and_true, exists_const, Hm_1, gF_Rm_0, fs_Rm_0, gF_Rm_2, gC_Rm, h0.1.2.1, n_eq0 (show sn s < 2 ^ 31 by omega)]
  unfold o_solve at hp
  by_cases e : sn s = 0
  · rw [if_pos e] at hp
    exact ⟨fun q => absurd e q, fun _ => hp _ _ h0 s0⟩
  rw [if_neg e] at hp
  refine ⟨fun _ => ?_, fun q => absurd q e⟩
  refine sp_Rm_lay h0 hw hz (fun m2 l2 hr2 _ hL hs => ?_)
  have hf := failT_rg s (sn s)
  have c0 : iI (failT s (sn s)) < 0 ↔ failT s (sn s) < 0 := iI_lt (b := 0) (by omega) (by omega) (by omega) (by omega)
  have e24 : m2 113 24 = iI (failT s (sn s)) := hL.2.2.2
  simp only [Option.some.injEq, Sum.inl.injEq, Sum.inr.injEq, Prod.mk.injEq, and_assoc, exists_eq_left', exists_eq_left, exists_and_left, exists_and_right, exists_eq', exists_eq, forall_eq, forall_eq', true_and, and_true, exists_const, Hm_1, gF_Rm_24, gF_Rm_25, gC_Rm, e24, c0]
  by_cases c : failT s (sn s) < 0
  · rw [if_pos c] at hp
    refine ⟨fun _ => ?_, fun q => absurd c q⟩
    refine sp_Rm_best (i := 0) (y := fun _ => 0) hr2.1 hw hz hL (by omega) (some1_sz (failT_neg c 0 (by omega))) (fun q => absurd rfl q) (fun m3 h3 _ => ?_)
    have h33 : S3 m2 m3 := fun k g1 _ g3 => h3 k g1 g3
    exact hp _ _ (h33.rr hr2) ((s0.tr hs).tr h33.sc)
  · rw [if_neg c] at hp
    refine ⟨fun q => absurd q c, fun _ => ?_⟩
    rw [show (-10 : Int32) = iI (-10) from rfl, iI_sub]
    exact hp _ _ hr2 (s0.tr hs)
theorem Row_4 {mu : Nat → Nat → Int32} {x : Nat → Nat} (h : Row mu 133 x) : Row (up (up (up (up mu 125 0 (mu 133 0)) 125 1 (mu 133 1)) 125 2 (mu 133 2)) 125 3 (mu 133 3)) 125 x := by
  intro v hv
  refine ⟨?_, (h v hv).2⟩
  rw [← (h v hv).1]
  match v, hv with
  | 0, _ => rw [up_j (by decide), up_j (by decide), up_j (by decide), up_at]
  | 1, _ => rw [up_j (by decide), up_j (by decide), up_at]
  | 2, _ => rw [up_j (by decide), up_at]
  | 3, _ => rw [up_at]
theorem nt62 {K43 : Nat → Int32 → Int32 → Int32 → MH → Prop} {Post : Int32 → MH → Prop} {m : Nat → Nat → Int32} {l : Nat → Int64} {i v k : Int32} (hp : K43 113 i v (k + 1) (Hm (up (up (up (up m 125 0 (m 133 0)) 125 1 (m 133 1)) 125 2 (m 133 2)) 125 3 (m 133 3)) l)) : wp_Rm_note_62 K43 Post 113 i v k 0 (Hm m l) := by
  have step : ∀ (K : Nat → Int32 → Int32 → Int32 → Int32 → MH → Prop) (m : Nat → Nat → Int32) (u : Nat), u < 4 → K 113 i v k (nI (u + 1)) (Hm (up m 125 u (m 133 u)) l) → wb_Rm_note_62 K43 K Post 113 i v k (nI u) (Hm m l) := by
    intro K m u hu hK
    unfold wb_Rm_note_62
    refine ⟨fun e => absurd e (nI_ge hu (by decide)), fun _ => ?_⟩
    simp only [Option.some.injEq, Sum.inl.injEq, Sum.inr.injEq, Prod.mk.injEq, and_assoc, exists_eq_left', exists_eq_left, exists_and_left, exists_and_right, exists_eq', exists_eq, forall_eq, forall_eq', true_and, and_true, exists_const, Hm_1, gF_Rm_15, gF_Rm_25, gA_Rch, gA_Rbe, ms_Rbe, vp_in_nI hu (show 4 < 2 ^ 31 by decide), nI_clamp (show u < 2 ^ 31 by omega), nI_1]
    exact hK
  refine ⟨5, step _ m 0 (by decide) (step _ _ 1 (by decide) (step _ _ 2 (by decide) (step _ _ 3 (by decide) ?_)))⟩
  refine ⟨fun _ => ?_, fun e => absurd (by decide) e⟩
  simp only [up_k (show ¬ 133 = 125 by decide)]
  exact hp
theorem rs_note {Post : Int32 → MH → Prop} {s : SG} {mu : Nat → Nat → Int32} {l : Nat → Int64} (hr : RR s mu l) (hw : WF s) (hz : ∀ i, i < sn s → sz s i ≤ 800) (x v : Int32) (hp : ∀ mu2 l2, RR s mu2 l2 → SC mu mu2 → Post (o_note s x v) (Hm mu2 l2)) : wp_Rm_note Post 113 x v (Hm mu l) := by
  have h0 := RR_0 hr 0
  have h12 := hw.n
  have s0 : SC mu (up mu 113 0 0) := SC.up mu (by decide) _ _
  unfold wp_Rm_note
  simp only [Option.some.injEq, Sum.inl.injEq, Sum.inr.injEq, Prod.mk.injEq, and_assoc, exists_eq_left', exists_eq_left, exists_and_left, exists_and_right, exists_eq', exists_eq, forall_eq, forall_eq', true_and, and_true, exists_const, Hm_1, gF_Rm_0, fs_Rm_0, gC_Rm, sp_Rm_noChord _ h0.1 hw, sp_in2, bI_0, show ((-7 : Int64)).toInt = -7 from rfl, show ((-1 : Int64)).toInt = -1 from rfl, show ((0 : Int64)).toInt = 0 from rfl, show ((1 : Int64)).toInt = 1 from rfl, show ((2 : Int64)).toInt = 2 from rfl, show ((3 : Int64)).toInt = 3 from rfl, show ((5 : Int64)).toInt = 5 from rfl, show ((6 : Int64)).toInt = 6 from rfl, show ((7 : Int64)).toInt = 7 from rfl, show ((9 : Int64)).toInt = 9 from rfl, show ((14 : Int64)).toInt = 14 from rfl, show ((24 : Int64)).toInt = 24 from rfl, show ((127 : Int64)).toInt = 127 from rfl]
  unfold o_note at hp
  cases e : hasC s x
  · rw [e] at hp
    exact ⟨fun _ => hp _ _ h0 s0, fun q => by simp at q⟩
  refine ⟨fun q => absurd rfl q, fun _ => ?_⟩
  cases e2 : inI v 0 2
  · rw [e2, Bool.and_false] at hp
    exact ⟨fun q => absurd rfl q, fun _ => hp _ _ h0 s0⟩
  refine ⟨fun _ => ?_, fun q => by cases q⟩
  rw [e, e2] at hp
  simp only [Bool.and_self, if_true] at hp
  have hx := hasC_ix hw e
  have hv := inI_ix (b := 2) (by decide) e2
  generalize ix x = i at hx hp
  generalize ix v = w at hv hp
  rw [hx.1, hv.1]
  obtain ⟨-, hi⟩ := hx
  obtain ⟨-, hv⟩ := hv
  refine sp_Rm_lay h0 hw hz (fun m2 l2 hr2 _ hL hs => ?_)
  have hf := failT_rg s (sn s)
  have c0 : iI (failT s (sn s)) < 0 ↔ failT s (sn s) < 0 := iI_lt (b := 0) (by omega) (by omega) (by omega) (by omega)
  have e24 : m2 113 24 = iI (failT s (sn s)) := hL.2.2.2
  simp only [Option.some.injEq, Sum.inl.injEq, Sum.inr.injEq, Prod.mk.injEq, and_assoc, exists_eq_left', exists_eq_left, exists_and_left, exists_and_right, exists_eq', exists_eq, forall_eq, forall_eq', true_and, and_true, exists_const, Hm_1, gF_Rm_24, e24, c0]
  by_cases c : failT s (sn s) < 0
  · rw [if_pos c] at hp
    refine ⟨fun _ => ?_, fun q => absurd c q⟩
    have key : ∀ (u k : Nat) (m : Nat → Nat → Int32), k + u = i + 1 → S3 m2 m → (0 < k → Row m 133 (vv s (k - 1) (ch s (k - 1))) ∧ Row m 125 (vv s (k - 1) (ch s (k - 1)))) → wn_Rm_note_43 Post (u + 1) 113 (nI i) (nI w) (nI k) (Hm m l2) := by
      intro u
      induction u with
      | zero =>
        intro k m hk hm hrow
        obtain rfl : k = i + 1 := by omega
        have r := (hrow (by omega)).1 w (by omega)
        show wb_Rm_note_43 _ _ _ _ _ _ _
        unfold wb_Rm_note_43
        refine ⟨fun _ => ?_, fun q => absurd ((nI_ltI (by omega) (by omega)).mpr (by omega)) q⟩
        simp only [Option.some.injEq, Sum.inl.injEq, Sum.inr.injEq, Prod.mk.injEq, and_assoc, exists_eq_left', exists_eq_left, exists_and_left, exists_and_right, exists_eq', exists_eq, forall_eq, forall_eq', true_and, and_true, exists_const, Hm_1, gF_Rm_25, gA_Rch, vp_in_nI (show w < 4 by omega) (show 4 < 2 ^ 31 by decide), nI_clamp (show w < 2 ^ 31 by omega), r.1]
        exact hp _ _ (hm.rr hr2) ((s0.tr hs).tr hm.sc)
      | succ u ih =>
        intro k m hk hm hrow
        show wb_Rm_note_43 _ _ _ _ _ _ _
        unfold wb_Rm_note_43
        refine ⟨fun q => absurd ((nI_ltI (by omega) (by omega)).mp q) (by omega), fun _ => ⟨133, gF_Rm_25 m l2, gC_Rm _ l2, ?_⟩⟩
        refine sp_Rm_best (i := k) (y := vv s (k - 1) (ch s (k - 1))) (hm.rb hr2.1) hw hz (hm.laid hL) (by omega) (some1_sz (failT_neg c k (by omega))) (fun q => (hrow (by omega)).2) (fun m3 h3 row3 => ?_)
        have ec : (bst (bF s k (vv s (k - 1) (ch s (k - 1)))) (sz s k)).2 = ch s k := by
          cases k with
          | zero => rfl
          | succ k => rfl
        rw [ec] at row3
        refine nt62 ?_
        rw [nI_1]
        have h4 : S3 m2 (up (up (up (up m3 125 0 (m3 133 0)) 125 1 (m3 133 1)) 125 2 (m3 133 2)) 125 3 (m3 133 3)) := by
          intro q g1 g2 g3
          rw [up_k g2, up_k g2, up_k g2, up_k g2, h3 q g1 g3, hm q g1 g2 g3]
        refine ih (k + 1) _ (by omega) h4 (fun _ => ⟨?_, Row_4 row3⟩)
        exact Row_k row3 (by rw [up_k (by decide), up_k (by decide), up_k (by decide), up_k (by decide)])
    exact ⟨_, key (i + 1) 0 m2 (by omega) (S3.rf m2) (fun q => absurd q (by omega))⟩
  · rw [if_neg c] at hp
    exact ⟨fun q => absurd q c, fun _ => hp _ _ hr2 (s0.tr hs)⟩
theorem rs_many {Post : Int32 → MH → Prop} {s : SG} {mu : Nat → Nat → Int32} {l : Nat → Int64} (hr : RR s mu l) (hw : WF s) (hz : ∀ i, i < sn s → sz s i ≤ 800) (hp : ∀ mu2 l2, RR s mu2 l2 → SC mu mu2 → Post (o_many s) (Hm mu2 l2)) : wp_Rm_many_0 Post 113 (Hm mu l) := by
  have h0 := RR_0 hr 0
  have h12 := hw.n
  have s0 : SC mu (up mu 113 0 0) := SC.up mu (by decide) _ _
  unfold wp_Rm_many_0
  simp only [Option.some.injEq, Sum.inl.injEq, Sum.inr.injEq, Prod.mk.injEq, and_assoc, exists_eq_left', exists_eq_left, exists_and_left, exists_and_right, exists_eq', exists_eq, forall_eq, forall_eq', true_and, and_true, exists_const, Hm_1, gF_Rm_0, fs_Rm_0, gF_Rm_2, gC_Rm, h0.1.2.1, n_eq0 (show sn s < 2 ^ 31 by omega)]
  unfold o_many at hp
  by_cases e : sn s = 0
  · rw [if_pos e] at hp
    exact ⟨fun q => absurd e q, fun _ => hp _ _ h0 s0⟩
  rw [if_neg e] at hp
  refine ⟨fun _ => ?_, fun q => absurd q e⟩
  refine sp_Rm_lay h0 hw hz (fun m2 l2 hr2 _ hL hs => ?_)
  have hq := hp _ _ hr2 (s0.tr hs)
  have hn1 : sn s - 1 < sn s := by omega
  have hd := hL.dat hn1
  have z1 := hz _ hn1
  have key : ∀ (u k : Nat), k + u = sz s (sn s - 1) → wn_Rm_many_0_23 Post (u + 1) 113 (lN (sumTo (Rw s (sn s - 1)) k)) (nI k) (Hm m2 l2) := by
    intro u
    induction u with
    | zero =>
      intro k hk
      obtain rfl : k = sz s (sn s - 1) := by omega
      have hS := sumTo_b (Rw_le s (sn s - 1)) (sz s (sn s - 1))
      show wb_Rm_many_0_23 _ _ _ _ _ _
      unfold wb_Rm_many_0_23
      generalize sumTo (Rw s (sn s - 1)) (sz s (sn s - 1)) = n at hS hq ⊢
      have em : lg_cmp (lN n) 1000000000 ≤ 0 ↔ n ≤ 1000000000 := lg_leN (b := 1000000000) (by omega) (by decide)
      simp only [Option.some.injEq, Sum.inl.injEq, Sum.inr.injEq, Prod.mk.injEq, and_assoc, exists_eq_left', exists_eq_left, exists_and_left, exists_and_right, exists_eq', exists_eq, forall_eq, forall_eq', true_and, and_true, exists_const, Hm_1, gF_Rm_21, gF_Rm_2, gA_Rsi, hr2.1.2.1, n_sub1 (show 1 ≤ sn s by omega), vp_in_nI (show sn s - 1 < 12 by omega) (show 12 < 2 ^ 31 by decide), nI_clamp (show sn s - 1 < 2 ^ 31 by omega), hd.2.2.2.1, nI_leI (show sz s (sn s - 1) < 2 ^ 31 by omega) (show sz s (sn s - 1) < 2 ^ 31 by omega), em, lN_i]
      unfold cap MANYN at hq
      refine ⟨fun _ => ⟨fun g => ?_, fun g => ?_⟩, fun g => absurd (Nat.le_refl _) g⟩
      · rw [if_neg (by omega)] at hq; exact hq
      · rw [if_pos (by omega)] at hq; exact hq
    | succ u ih =>
      intro k hk
      have el := (hL.2.2.1 (sn s - 1) hn1 k (by omega)).1
      show wb_Rm_many_0_23 _ _ _ _ _ _
      unfold wb_Rm_many_0_23
      simp only [Option.some.injEq, Sum.inl.injEq, Sum.inr.injEq, Prod.mk.injEq, and_assoc, exists_eq_left', exists_eq_left, exists_and_left, exists_and_right, exists_eq', exists_eq, forall_eq, forall_eq', true_and, and_true, exists_const, Hm_1, gF_Rm_21, gF_Rm_2, gF_Rm_23, gA_Rsi, gL_Rro, hr2.1.2.1, n_sub1 (show 1 ≤ sn s by omega), vp_in_nI (show sn s - 1 < 12 by omega) (show 12 < 2 ^ 31 by decide), nI_clamp (show sn s - 1 < 2 ^ 31 by omega), hd.2.2.2.1, nI_leI (show sz s (sn s - 1) < 2 ^ 31 by omega) (show k < 2 ^ 31 by omega), show (800 : Int32) = nI 800 from rfl, pk_mul, nI_add, vp_in_nI (show 800 * (sn s - 1) + k < 9600 by omega) (show 9600 < 2 ^ 31 by decide), nI_clamp (show 800 * (sn s - 1) + k < 2 ^ 31 by omega), el, lN_add, nI_1]
      exact ⟨fun g => absurd g (by omega), fun _ => ih (k + 1) (by omega)⟩
  exact ⟨_, key (sz s (sn s - 1)) 0 (by omega)⟩
