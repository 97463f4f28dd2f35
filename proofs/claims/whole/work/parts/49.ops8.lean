def nth (s : SG) (i : Nat) (k : Int) : Nat → Nat → Nat → Option Nat
  | 0, _, _ => none
  | j + 1, q, n => if isW s i (q + 2) then (if (n : Int) = k then some (q + 2) else nth s i k j (q + 1) (n + 1)) else nth s i k j (q + 1) n
def aboutW (s : SG) (i f w : Nat) : Int32 := if w = 0 then nI f else if w = 1 then nI (std s i f - 1) else if w = 2 then nI (tlet s i f) else if w = 3 then iI (talt s i f) else if w = 4 then nI (tcl s i f) else if w = 5 then bI (tl s i f) else if isS s i f then 1 else if f = 7 then 2 else 0
def o_worked (s : SG) (i k w : Int32) : Int32 := if hasC s i && inI w 0 7 then (if ix w = 7 then nI (cntW s (ix i) 8) else (match nth s (ix i) k.toInt 8 0 0 with | some f => aboutW s (ix i) f (ix w) | none => -1)) else -1
set_option maxHeartbeats 1000000 in
theorem sp_Rm_workedAs {Post : Int32 → MH → Prop} {s : SG} {mu : Nat → Nat → Int32} {l : Nat → Int64} (hb : RB s mu) (hw : WF s) {i f w : Nat} (hi : i < sn s) (h2 : 2 ≤ f) (hf : f < 10) (hw2 : w < 7) (hp : Post (aboutW s i f w) (Hm mu l)) : wp_Rm_workedAs Post 113 (nI i) (nI f) (nI w) (Hm mu l) := by
  have h12 := hw.n
  have h4 := hw.td hi f
  have q : ∀ k : Nat, k < 7 → (nI w = nI k ↔ w = k) := fun k hk => nI_eq (by omega) (by omega)
  have f7 : nI f = 7 ↔ f = 7 := nI_eq (by omega) (by decide)
  unfold wp_Rm_workedAs
  simp only [show (0 : Int32) = nI 0 from rfl, show (1 : Int32) = nI 1 from rfl, show (2 : Int32) = nI 2 from rfl, show (3 : Int32) = nI 3 from rfl, show (4 : Int32) = nI 4 from rfl, show (5 : Int32) = nI 5 from rfl, q 0 (by decide), q 1 (by decide), q 2 (by decide), q 3 (by decide), q 4 (by decide), q 5 (by decide)]
  simp only [show nI 0 = (0 : Int32) from rfl, show nI 1 = (1 : Int32) from rfl, show nI 2 = (2 : Int32) from rfl, Option.some.injEq, Sum.inl.injEq, Sum.inr.injEq, Prod.mk.injEq, and_assoc, exists_eq_left', exists_eq_left, exists_and_left, exists_and_right, exists_eq', exists_eq, forall_eq, forall_eq', true_and, and_true, exists_const, Hm_1, gC_Rm, gF_Rm_0, fs_Rm_0, gF_Rm_1, fs_Rm_1, gF_Rm_2, fs_Rm_2, gF_Rm_3, gF_Rm_4, gF_Rm_5, gF_Rm_6, gF_Rm_7, gF_Rm_8, gF_Rm_9, gF_Rm_10, fs_Rm_10, gF_Rm_11, gF_Rm_12, gF_Rm_13, gF_Rm_14, gF_Rm_15, gF_Rm_16, gF_Rm_17, gF_Rm_18, gF_Rm_19, fs_Rm_19, gF_Rm_20, gF_Rm_21, gF_Rm_22, gF_Rm_23, gF_Rm_24, fs_Rm_24, gF_Rm_25, gA_Rle, ms_Rle, gA_Roc, ms_Roc, gA_Ral, ms_Ral, gA_Rto, ms_Rto, gA_Rlo, ms_Rlo, gA_Rhi, ms_Rhi, gA_Rho, ms_Rho, gA_Rgi, ms_Rgi, gA_Rha, ms_Rha, gA_Ris, ms_Ris, gA_Rno, ms_Rno, gA_Rbe, ms_Rbe, gA_Rtn, ms_Rtn, gA_Rsu, ms_Rsu, gA_Rfa, ms_Rfa, gA_Rpi, ms_Rpi, gA_Rsi, ms_Rsi, gA_Rre, ms_Rre, gL_Rro, ms_Rro, gA_Rch, ms_Rch, sp_Rm_isTold _ hb hw hi hf, sp_Rm_letterOf _ hb hw hi (show 1 ≤ f by omega) hf, sp_Rm_alterOf _ hb hw hi (show 1 ≤ f by omega) hf, sp_Rm_classOf _ hb hw hi (show 1 ≤ f by omega) hf, sp_Rm_isSuspended _ hb hw hi h2 hf, bI_0, f7, show (10 : Int32) = nI 10 from rfl, pk_mul, nI_add, vp_in_nI (show 10 * i + f < 120 by omega) (show 120 < 2 ^ 31 by decide), nI_clamp (show 10 * i + f < 2 ^ 31 by omega), hb.td hi hf]
  unfold aboutW at hp
  refine ⟨fun e => ?_, fun e => ⟨fun t => ?_, fun t => ?_⟩, fun e => ?_, fun e => ?_, fun e => ?_, fun e => ⟨fun t => ?_, fun t => ?_⟩, fun e0 e1 e2 e3 e4 e5 => ⟨fun t => ⟨fun u => ?_, fun u => ?_⟩, fun t => ?_⟩⟩
  · rw [if_pos e] at hp; exact hp
  · subst e
    simp only [tl, decide_eq_false_iff_not] at t
    rw [show std s i f - 1 = 0 by omega] at hp
    exact hp
  · subst e
    simp only [tl, decide_eq_false_iff_not] at t
    rw [n_sub1 (by omega)]
    exact hp
  · subst e; exact hp
  · subst e; exact hp
  · subst e; exact hp
  · subst e; rw [t] at hp; exact hp
  · subst e; simp only [Bool.not_eq_false] at t; rw [t] at hp; exact hp
  · rw [if_neg e0, if_neg e1, if_neg e2, if_neg e3, if_neg e4, if_neg e5, t, if_neg (by decide), if_neg u] at hp; exact hp
  · rw [if_neg e0, if_neg e1, if_neg e2, if_neg e3, if_neg e4, if_neg e5, t, if_neg (by decide), if_pos u] at hp; exact hp
  · simp only [Bool.not_eq_false] at t
    rw [if_neg e0, if_neg e1, if_neg e2, if_neg e3, if_neg e4, if_neg e5, t, if_pos rfl] at hp; exact hp
theorem rs_worked {Post : Int32 → MH → Prop} {s : SG} {mu : Nat → Nat → Int32} {l : Nat → Int64} (hr : RR s mu l) (hw : WF s) (x k y : Int32) (hp : ∀ mu2, RR s mu2 l → SC mu mu2 → Post (o_worked s x k y) (Hm mu2 l)) : wp_Rm_worked Post 113 x k y (Hm mu l) := by
  have h0 := RR_0 hr 0
  have h12 := hw.n
  have s0 : SC mu (up mu 113 0 0) := SC.up mu (by decide) _ _
  have hq := hp _ h0 s0
  unfold wp_Rm_worked
  simp only [Option.some.injEq, Sum.inl.injEq, Sum.inr.injEq, Prod.mk.injEq, and_assoc, exists_eq_left', exists_eq_left, exists_and_left, exists_and_right, exists_eq', exists_eq, forall_eq, forall_eq', true_and, and_true, exists_const, Hm_1, gF_Rm_0, fs_Rm_0, gC_Rm, sp_Rm_noChord _ h0.1 hw, sp_in2, bI_0, show ((-7 : Int64)).toInt = -7 from rfl, show ((-1 : Int64)).toInt = -1 from rfl, show ((0 : Int64)).toInt = 0 from rfl, show ((1 : Int64)).toInt = 1 from rfl, show ((2 : Int64)).toInt = 2 from rfl, show ((3 : Int64)).toInt = 3 from rfl, show ((5 : Int64)).toInt = 5 from rfl, show ((6 : Int64)).toInt = 6 from rfl, show ((7 : Int64)).toInt = 7 from rfl, show ((9 : Int64)).toInt = 9 from rfl, show ((14 : Int64)).toInt = 14 from rfl, show ((24 : Int64)).toInt = 24 from rfl, show ((127 : Int64)).toInt = 127 from rfl]
  unfold o_worked at hq
  cases e : hasC s x
  · rw [e] at hq
    exact ⟨fun _ => hq, fun q => by simp at q⟩
  refine ⟨fun q => absurd rfl q, fun _ => ?_⟩
  cases e2 : inI y 0 7
  · rw [e2, Bool.and_false] at hq
    exact ⟨fun q => absurd rfl q, fun _ => hq⟩
  refine ⟨fun _ => ?_, fun q => by cases q⟩
  rw [e, e2] at hq
  simp only [Bool.and_self, if_true] at hq
  have hx := hasC_ix hw e
  have hy := inI_ix (b := 7) (by decide) e2
  generalize ix x = i at hx hq
  generalize ix y = w at hy hq
  rw [hx.1, hy.1]
  obtain ⟨-, hi⟩ := hx
  obtain ⟨-, hy⟩ := hy
  have w7 : nI w = 7 ↔ w = 7 := nI_eq (by omega) (by decide)
  have w7b : 7 ≤ nI w ↔ 7 ≤ w := nI_leI (a := 7) (by decide) (by omega)
  have key : ∀ (j q n : Nat), q + j = 8 → n = cntW s i q → Post (if w = 7 then nI (cntW s i 8) else (match nth s i k.toInt j q n with | some f => aboutW s i f w | none => -1)) (Hm (up mu 113 0 0) l) → wn_Rm_worked_33 Post (j + 1) 113 (nI i) k (nI w) (nI n) (nI (q + 2)) (Hm (up mu 113 0 0) l) := by
    intro j
    induction j with
    | zero =>
      intro q n hk hn hz
      obtain rfl : q = 8 := by omega
      refine ⟨fun _ => ⟨fun e7 => ?_, fun e7 => ?_⟩, fun h => absurd (by decide) h⟩
      · rw [w7] at e7; rw [if_neg e7] at hz; exact hz
      · rw [w7] at e7; rw [if_pos e7] at hz; rw [hn]; exact hz
    | succ j ih =>
      intro q n hk hn hz
      have hle := cntW_le s i q
      show wb_Rm_worked_33 _ _ _ _ _ _ _ _ _
      unfold wb_Rm_worked_33 wp_Rm_worked_71 wp_Rm_worked_74
      refine ⟨fun h => absurd h (nI_ge (show q + 2 < 10 by omega) (by decide)), fun _ => ⟨gC_Rm _ l, ?_⟩⟩
      rw [sp_Rm_isWorked _ h0.1 hw hi l (q + 2) (by omega) (by omega)]
      have e1 : nI (q + 2) + 1 = nI (q + 1 + 2) := nI_1 (q + 2)
      rw [bI_0, e1, nI_1, w7b]
      have hc : nI n = k ↔ (n : Int) = k.toInt := by rw [i_eq, nI_t (by omega)]
      rw [hc]
      unfold nth at hz
      cases hW : isW s i (q + 2)
      · refine ⟨fun _ => ?_, fun h => absurd rfl h⟩
        rw [hW] at hz
        exact ih (q + 1) n (by omega) (by unfold cntW; rw [hW]; exact hn) hz
      · refine ⟨fun h => (by cases h), fun _ => ⟨fun hk2 => ?_, fun hk2 => ⟨fun h7 => ?_, fun h7 => ⟨gC_Rm _ l, ?_⟩⟩⟩⟩
        · rw [hW] at hz
          simp only [hk2, if_true, if_false] at hz
          exact ih (q + 1) (n + 1) (by omega) (by unfold cntW; rw [hW, hn]; rfl) hz
        · have e7 : w = 7 := by omega
          refine ih (q + 1) (n + 1) (by omega) (by unfold cntW; rw [hW, hn]; rfl) ?_
          rw [if_pos e7] at hz ⊢
          exact hz
        · rw [hW] at hz
          simp only [hk2, if_true] at hz
          rw [if_neg (show ¬ w = 7 by omega)] at hz
          exact sp_Rm_workedAs h0.1 hw hi (by omega) (by omega) (by omega) hz
  exact ⟨9, key 8 0 0 (by omega) rfl hq⟩
