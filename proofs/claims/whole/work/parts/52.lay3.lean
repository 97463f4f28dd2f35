theorem failT_rg (s : SG) : ∀ i, -1 ≤ failT s i ∧ failT s i ≤ i
  | 0 => by unfold failT; omega
  | i + 1 => by
    have := failT_rg s i
    unfold failT; repeat' split
    all_goals omega
theorem failT_s (s : SG) (i : Nat) : failT s (i + 1) = if failT s i < 0 then (if some1 s i then -1 else (i : Int)) else failT s i := rfl
def LRows (s : SG) (n : Nat) (l : Nat → Int64) : Prop := ∀ q, q < n → ∀ k, k < sz s q → l (800 * q + k) = lN (Rw s q k)
def LI (s : SG) (mu0 : Nat → Nat → Int32) (i : Nat) (m : Nat → Nat → Int32) (l : Nat → Int64) : Prop := RB s m ∧ m 113 19 = 1 ∧ m 113 24 = iI (failT s i) ∧ SC mu0 m ∧ (∀ q, q < i → Dat s q m) ∧ LRows s i l
theorem Dat_up24 {s : SG} {q : Nat} {m : Nat → Nat → Int32} (h : Dat s q m) (j : Nat) (v : Int32) : Dat s q (up m 113 j v) := by
  unfold Dat at *
  rw [up_k (by decide), up_k (by decide), up_k (by decide), up_k (by decide), up_k (by decide)]
  exact h
theorem lay247 {K20 : Nat → Int32 → MH → Prop} {Post : MH → Prop} {i : Nat} {m : Nat → Nat → Int32} {l : Nat → Int64} {v : Int32} (hp : K20 113 (nI (i + 1)) (Hm (up m 113 24 v) l)) : wp_Rm_lay_247 K20 Post 113 (nI i) 113 v (Hm m l) := by
  unfold wp_Rm_lay_247
  simp only [Option.some.injEq, Sum.inl.injEq, Sum.inr.injEq, Prod.mk.injEq, and_assoc, exists_eq_left', exists_eq_left, exists_and_left, exists_and_right, exists_eq', exists_eq, forall_eq, forall_eq', true_and, and_true, exists_const, Hm_1, gF_Rm_24, fs_Rm_24, nI_1]
  exact hp
theorem anyTo_s (p : Nat → Bool) (n : Nat) : anyTo p (n + 1) = (anyTo p n || p n) := rfl
set_option maxHeartbeats 1000000 in
theorem lay37 {K20 : Nat → Int32 → MH → Prop} {Post : MH → Prop} {s : SG} {mu0 mu : Nat → Nat → Int32} (hb : RB s mu) (hw : WF s) (hz : ∀ i, i < sn s → sz s i ≤ 800) {i : Nat} (hi : i < sn s) (h19 : mu 113 19 = 1) (h24 : mu 113 24 = iI (failT s i)) (hsc : SC mu0 mu) (hd : ∀ q, q < i + 1 → Dat s q mu) (hp : ∀ m2 l2, LI s mu0 (i + 1) m2 l2 → K20 113 (nI (i + 1)) (Hm m2 l2)) : ∀ (j k : Nat) (m : Nat → Nat → Int32) (l : Nat → Int64), k + j = sz s i → S45 mu m → LRows s i l → (∀ q, q < k → l (800 * i + q) = lN (Rw s i q)) → wn_Rm_lay_37 K20 Post (j + 1) 113 (nI i) (bI (anyTo (fun k => decide (0 < Rw s i k)) k)) (nI k) (Hm m l) := by
  have h12 := hw.n
  have z0 := hz i hi
  have hf := failT_rg s i
  intro j
  induction j with
  | zero =>
    intro k m l hk hm hl hlk
    obtain rfl : k = sz s i := by omega
    have hdm := hm.dat (hd i (by omega))
    have e24 : m 113 24 = iI (failT s i) := by rw [hm 113 (by decide) (by decide)]; exact h24
    have fin : ∀ v, v = iI (failT s (i + 1)) → K20 113 (nI (i + 1)) (Hm (up m 113 24 v) l) := by
      intro v hv
      refine hp _ _ ⟨RB_t (hm.rb hb) (by decide) v, ?_, ?_, ?_, ?_, ?_⟩
      · rw [up_j (by decide), hm 113 (by decide) (by decide)]; exact h19
      · rw [up_at]; exact hv
      · exact (hsc.tr hm.sc).tr (SC.up _ (by decide) _ _)
      · intro q hq; exact Dat_up24 (hm.dat (hd q hq)) _ _
      · intro q hq r hr
        by_cases e : q = i
        · subst e; exact hlk r hr
        · exact hl q (by omega) r hr
    show wb_Rm_lay_37 _ _ _ _ _ _ _ _
    unfold wb_Rm_lay_37 wp_Rm_lay_243
    simp only [Option.some.injEq, Sum.inl.injEq, Sum.inr.injEq, Prod.mk.injEq, and_assoc, exists_eq_left', exists_eq_left, exists_and_left, exists_and_right, exists_eq', exists_eq, forall_eq, forall_eq', true_and, and_true, exists_const, Hm_1, gF_Rm_21, gF_Rm_24, gA_Rsi, vp_in_nI (show i < 12 by omega) (show 12 < 2 ^ 31 by decide), nI_clamp (show i < 2 ^ 31 by omega), hdm.2.2.2.1, nI_leI (show sz s i < 2 ^ 31 by omega) (show sz s i < 2 ^ 31 by omega), e24]
    refine ⟨fun _ => ⟨fun e => lay247 (fin _ ?_), fun e => ?_⟩, fun e => absurd (Nat.le_refl _) e⟩
    · have e1 : some1 s i = true := by unfold some1; exact bI_nf e
      rw [failT_s, e1]
      by_cases c : failT s i < 0
      · rw [if_pos c, if_pos rfl, show failT s i = -1 by omega]
      · rw [if_neg c]
    · have e1 : some1 s i = false := by unfold some1; exact (bI_0 _).mp e
      have c0 : (0 : Int32) ≤ iI (failT s i) ↔ 0 ≤ failT s i := iI_le (a := 0) (by omega) (by omega) (by omega) (by omega)
      rw [c0]
      refine ⟨fun c => lay247 (fin _ ?_), fun c => lay247 (fin _ ?_)⟩
      · rw [failT_s, if_neg (by omega)]
      · rw [failT_s, if_pos (by omega), e1, iI_n]; rfl
  | succ j ih =>
    intro k m l hk hm hl hlk
    have hdi := hd i (by omega)
    have hdm := hm.dat hdi
    have hbm := hm.rb hb
    show wb_Rm_lay_37 _ _ _ _ _ _ _ _
    unfold wb_Rm_lay_37
    simp only [Option.some.injEq, Sum.inl.injEq, Sum.inr.injEq, Prod.mk.injEq, and_assoc, exists_eq_left', exists_eq_left, exists_and_left, exists_and_right, exists_eq', exists_eq, forall_eq, forall_eq', true_and, and_true, exists_const, Hm_1, gF_Rm_21, gF_Rm_14, gC_Rm, gA_Rsi, vp_in_nI (show i < 12 by omega) (show 12 < 2 ^ 31 by decide), nI_clamp (show i < 2 ^ 31 by omega), hdm.2.2.2.1, nI_leI (show sz s i < 2 ^ 31 by omega) (show k < 2 ^ 31 by omega)]
    refine ⟨fun e => absurd e (by omega), fun _ => ?_⟩
    refine tk hbm hw hi z0 (show k < sz s i by omega) hdm (Or.inl rfl) (fun m2 h2 row2 => ?_)
    have hm2 : S45 m m2 := fun r g _ => h2 r g
    have hm3 := hm.tr hm2
    have next : ∀ m4, S45 mu m4 → wn_Rm_lay_37 K20 Post (j + 1) 113 (nI i) (bI (anyTo (fun k => decide (0 < Rw s i k)) k || decide (0 < Rw s i k))) (nI (k + 1)) (Hm m4 (vp_updL l (800 * i + k) (lN (Rw s i k)))) := by
      intro m4 h4
      refine ih (k + 1) m4 _ (by omega) h4 ?_ ?_
      · intro q hq r hr
        have := hz q (by omega)
        unfold vp_updL
        rw [if_neg (by omega)]
        exact hl q hq r hr
      · intro q hq
        unfold vp_updL
        by_cases e : q = k
        · subst e; rw [if_pos rfl]
        · rw [if_neg (by omega)]; exact hlk q (by omega)
    rw [n_eq0 (by omega)]
    refine ⟨fun e => ?_, fun e => ⟨gC_Rm _ _, ?_⟩⟩
    · obtain ⟨i, rfl⟩ : ∃ q, i = q + 1 := ⟨i - 1, by omega⟩
      unfold wp_Rm_lay_79
      exact ⟨_, lay82 hb hw hz hi (show k < sz s (i + 1) by omega) (hd i (by omega)) hdi (fun q hq => hl i (by omega) q hq) (fun m4 h4 => next m4 h4) (sz s i) 0 m2 (by omega) hm3 row2⟩
    · subst e
      refine sp_Rm_pair0 (hm3.dat hdi).msk row2 ?_
      have hle := pair0_le s (vv s 0 k)
      have ex : ∀ n : Nat, n = Rw s 0 k → wp_Rm_lay_77 K20 (wn_Rm_lay_37 K20 Post (j + 1)) Post 113 (nI 0) (bI (anyTo (fun k => decide (0 < Rw s 0 k)) k)) (nI k) (lN n) (Hm m2 l) := by
        intro n hn
        have hn1 : n ≤ 1000000000 := by rw [hn]; exact Rw_le s 0 k
        refine ⟨1, ?_⟩
        show wb_Rm_lay_82 _ _ _ _ _ _ _ _ _ _ _
        unfold wb_Rm_lay_82 wp_Rm_lay_100
        have em : lg_cmp (lN n) 1000000000 ≤ 0 ↔ n ≤ 1000000000 := lg_leN (b := 1000000000) (by omega) (by decide)
        refine ⟨fun e => absurd rfl e, fun _ => ⟨fun _ => ?_, fun e => absurd (by decide) e⟩⟩
        simp only [Option.some.injEq, Sum.inl.injEq, Sum.inr.injEq, Prod.mk.injEq, and_assoc, exists_eq_left', exists_eq_left, exists_and_left, exists_and_right, exists_eq', exists_eq, forall_eq, forall_eq', true_and, and_true, exists_const, Hm_1, gF_Rm_23, show (800 : Int32) = nI 800 from rfl, pk_mul, nI_add, em]
        refine ⟨fun _ => lay203 (by omega) (by omega) (by omega) ?_, fun e => absurd hn1 e⟩
        have := next m2 hm3
        rw [← hn] at this
        rw [hn]; rw [hn] at this
        exact this
      rw [n_eq0 (by omega)]
      refine ⟨fun z => ex 0 ?_, fun z => ex 1 ?_⟩
      · unfold Rw okS; rw [decide_eq_false z]; rfl
      · unfold Rw okS; rw [decide_eq_true z]; rfl
