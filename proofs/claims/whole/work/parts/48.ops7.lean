def cT (s : SG) : Nat → Nat := sumTo (fun k => if 0 < std s (k / 10) (k % 10) then 1 else 0)
def cS (s : SG) : Nat → Nat := sumTo (fun k => if k % 3 = 0 ∧ (ssg s (k / 3)).isSome = true then 1 else 0)
def cG (s : SG) : Nat → Nat := sumTo (fun k => if 0 ≤ sgv s (k / 3) (k % 3) then 1 else 0)
def o_count (s : SG) (w : Int32) : Int32 := if inI w 0 14 then (if ix w = 0 then nI (sn s) else if ix w = 1 then nI (cT s (10 * sn s)) else if ix w = 2 then iI (sF s + 7) else if ix w = 3 then nI (sp s) else if ix w = 4 then nI (cS s (3 * sn s)) else if ix w = 5 then nI (cG s (3 * sn s)) else if ix w < 9 then nI (slo s (ix w - 6)) else if ix w < 12 then nI (shi s (ix w - 9)) else nI (sho s (ix w - 12))) else -1
theorem cnt195 {Post : Int32 → MH → Prop} {s : SG} {mu : Nat → Nat → Int32} {l : Nat → Int64} (hb : RB s mu) {w n : Nat} (hw : w ≤ 14) (hp : Post (if w = 0 then nI (sn s) else if w = 2 then iI (sF s + 7) else if w = 3 then nI (sp s) else nI n) (Hm mu l)) : wp_Rm_count_195 Post 113 (nI w) (nI n) (Hm mu l) := by
  unfold wp_Rm_count_195
  simp only [Option.some.injEq, Sum.inl.injEq, Sum.inr.injEq, Prod.mk.injEq, and_assoc, exists_eq_left', exists_eq_left, exists_and_left, exists_and_right, exists_eq', exists_eq, forall_eq, forall_eq', true_and, and_true, exists_const, Hm_1, gF_Rm_10, gF_Rm_1, gF_Rm_2, hb.1, hb.2.1, hb.2.2.1, n_eq0 (show w < 2 ^ 31 by omega), show (2 : Int32) = nI 2 from rfl, show (3 : Int32) = nI 3 from rfl, nI_eq (show w < 2 ^ 31 by omega) (show 2 < 2 ^ 31 by decide), nI_eq (show w < 2 ^ 31 by omega) (show 3 < 2 ^ 31 by decide), show (7 : Int32) = iI 7 from rfl, iI_add]
  refine ⟨fun e => ⟨fun e2 => ⟨fun e3 => ?_, fun e3 => ?_⟩, fun e2 => ?_⟩, fun e => ?_⟩
  · rw [if_neg e, if_neg e2, if_neg e3] at hp; exact hp
  · rw [if_neg e, if_neg e2, if_pos e3] at hp; exact hp
  · rw [if_neg e, if_pos e2] at hp; exact hp
  · rw [if_pos e] at hp; exact hp
theorem sumTo_le (f : Nat → Nat) (h : ∀ k, f k ≤ 1) : ∀ n, sumTo f n ≤ n
  | 0 => Nat.le_refl 0
  | n + 1 => by have := sumTo_le f h n; have := h n; unfold sumTo; omega
theorem cnt115 {Post : Int32 → MH → Prop} {s : SG} {mu : Nat → Nat → Int32} {l : Nat → Int64} (hb : RB s mu) (hw : WF s) {w n0 : Nat} (hw2 : w ≤ 5) (hp : Post (if w = 0 then nI (sn s) else if w = 2 then iI (sF s + 7) else if w = 3 then nI (sp s) else if w = 4 then nI (cS s (3 * sn s)) else if w = 5 then nI (cG s (3 * sn s)) else nI n0) (Hm mu l)) (hn0 : 3 < w → n0 = 0) : wp_Rm_count_115 Post 113 (nI w) (nI n0) 0 (Hm mu l) := by
  have h12 := hw.n
  have w3 : nI w ≤ 3 ↔ w ≤ 3 := nI_leI (by omega) (by decide)
  have w4 : nI w = 4 ↔ w = 4 := nI_eq (by omega) (by decide)
  by_cases h3 : w ≤ 3
  · have hq : wp_Rm_count_195 Post 113 (nI w) (nI n0) (Hm mu l) := cnt195 hb (by omega) (by
      rw [if_neg (show ¬ w = 4 by omega), if_neg (show ¬ w = 5 by omega)] at hp; exact hp)
    refine ⟨1, ⟨nI (sn s), by rw [gF_Rm_2, hb.2.1], fun _ => hq, fun _ => ⟨fun _ => hq, fun q => absurd (w3.mpr h3) q⟩⟩⟩
  obtain rfl := hn0 (by omega)
  have key : ∀ (f : Nat → Nat), (∀ k, f k ≤ 1) → (w = 4 → f = fun k => if k % 3 = 0 ∧ (ssg s (k / 3)).isSome = true then 1 else 0) → (w = 5 → f = fun k => if 0 ≤ sgv s (k / 3) (k % 3) then 1 else 0) → Post (nI (sumTo f (3 * sn s))) (Hm mu l) → ∀ (j k : Nat), k + j = 3 * sn s → wn_Rm_count_115 Post (j + 1) 113 (nI w) (nI (sumTo f k)) (nI k) (Hm mu l) := by
    intro f f1 f4 f5 hq j
    induction j with
    | zero =>
      intro k hk
      obtain rfl : k = 3 * sn s := by omega
      refine ⟨nI (sn s), by rw [gF_Rm_2, hb.2.1], fun _ => ?_, fun q => ?_⟩
      · exact cnt195 hb (by omega) (by rw [if_neg (by omega), if_neg (by omega), if_neg (by omega)]; exact hq)
      · rw [show (3 : Int32) = nI 3 from rfl, pk_mul] at q
        exact absurd (nI_le (Nat.le_refl _) (by omega)) q
    | succ j ih =>
      intro k hk
      have ih' := ih (k + 1) (by omega)
      have hs := sumTo_le f f1 k
      refine ⟨nI (sn s), by rw [gF_Rm_2, hb.2.1], fun q => ?_, fun _ => ⟨fun q => absurd (w3.mp q) h3, fun _ => ?_⟩⟩
      · rw [show (3 : Int32) = nI 3 from rfl, pk_mul, nI_leI (by omega) (by omega)] at q
        omega
      · have e174 : ∀ b : Bool, f k = (if b then 1 else 0) → wp_Rm_count_174 (wn_Rm_count_115 Post (j + 1)) Post 113 (nI w) (nI (sumTo f k)) (nI k) (bI b) (Hm mu l) := by
          intro b hb2
          unfold wp_Rm_count_174 wp_Rm_count_188
          rw [bI_0, nI_1, nI_1]
          simp only [sumTo] at ih'
          refine ⟨fun e => ?_, fun e => ?_⟩
          · rw [hb2, e] at ih'; exact ih'
          · simp only [Bool.not_eq_false] at e; rw [hb2, e] at ih'; exact ih'
        rw [w4]
        refine ⟨fun e4 => ?_, fun e4 => ?_⟩
        · have e5 : w = 5 := by omega
          have hf := f5 e5
          have hg := hb.2.2.2.2.2.2.1 (k / 3) (by omega) (k % 3) (by omega)
          rw [show 3 * (k / 3) + k % 3 = k by omega] at hg
          have hgr := hw.2.2.2.2.2.2.1 (k / 3) (by omega) (k % 3) (by omega)
          simp only [Option.some.injEq, Sum.inl.injEq, Sum.inr.injEq, Prod.mk.injEq, and_assoc, exists_eq_left', exists_eq_left, exists_and_left, exists_and_right, exists_eq', exists_eq, forall_eq, forall_eq', true_and, and_true, exists_const, Hm_1, gF_Rm_11, gA_Rgi, vp_in_nI (show k < 36 by omega) (show 36 < 2 ^ 31 by decide), nI_clamp (show k < 2 ^ 31 by omega), hg]
          rw [show (0 : Int32) = iI 0 from rfl, iI_lt (by omega) (by omega) (by omega) (by omega)]
          refine ⟨fun q => e174 false (by rw [hf]; simp; omega), fun q => e174 true (by rw [hf]; simp; omega)⟩
        · have hf := f4 e4
          have er : nI k - nI k / 3 * 3 = nI (k % 3) := pk_rem (by omega) (by decide) (by decide)
          have ed : nI k / 3 = nI (k / 3) := pk_div (by omega) (by decide) (by decide)
          rw [er, n_eq0 (by omega), ed]
          unfold wp_Rm_count_156
          refine ⟨fun q => e174 false (by rw [hf]; simp [q]), fun q => ?_⟩
          simp only [Option.some.injEq, Sum.inl.injEq, Sum.inr.injEq, Prod.mk.injEq, and_assoc, exists_eq_left', exists_eq_left, exists_and_left, exists_and_right, exists_eq', exists_eq, forall_eq, forall_eq', true_and, and_true, exists_const, Hm_1, gF_Rm_13, gA_Ris, vp_in_nI (show k / 3 < 12 by omega) (show 12 < 2 ^ 31 by decide), nI_clamp (show k / 3 < 2 ^ 31 by omega), (hb.2.2.2.2.2.2.2 (k / 3) (by omega)).1, bI_0]
          refine ⟨fun z => e174 false (by rw [hf]; simp [q, z]), fun z => e174 true (by rw [hf]; simp only [Bool.not_eq_false] at z; simp [q, z])⟩
  rcases (show w = 4 ∨ w = 5 by omega) with rfl | rfl
  · exact ⟨3 * sn s + 1, key _ (fun k => by split <;> omega) (fun _ => rfl) (fun q => absurd q (by decide)) hp (3 * sn s) 0 (by omega)⟩
  · exact ⟨3 * sn s + 1, key _ (fun k => by split <;> omega) (fun q => absurd q (by decide)) (fun _ => rfl) hp (3 * sn s) 0 (by omega)⟩
theorem cnt74 {Post : Int32 → MH → Prop} {s : SG} {mu : Nat → Nat → Int32} {l : Nat → Int64} (hb : RB s mu) (hw : WF s) {w : Nat} (hw2 : w ≤ 5) (hp : Post (if w = 0 then nI (sn s) else if w = 1 then nI (cT s (10 * sn s)) else if w = 2 then iI (sF s + 7) else if w = 3 then nI (sp s) else if w = 4 then nI (cS s (3 * sn s)) else nI (cG s (3 * sn s))) (Hm mu l)) : wp_Rm_count_74 Post 113 (nI w) 0 0 (Hm mu l) := by
  have h12 := hw.n
  have w1 : nI w = 1 ↔ w = 1 := nI_eq (by omega) (by decide)
  by_cases h1 : w = 1
  · subst h1
    have key : ∀ (j k : Nat), k + j = 10 * sn s → wn_Rm_count_74 Post (j + 1) 113 (nI 1) (nI (cT s k)) (nI k) (Hm mu l) := by
      intro j
      induction j with
      | zero =>
        intro k hk
        obtain rfl : k = 10 * sn s := by omega
        refine ⟨nI (sn s), by rw [gF_Rm_2, hb.2.1], fun _ => ?_, fun q => ?_⟩
        · exact cnt115 hb hw (by decide) (by simpa using hp) (by omega)
        · rw [show (10 : Int32) = nI 10 from rfl, pk_mul] at q
          exact absurd (nI_le (Nat.le_refl _) (by omega)) q
      | succ j ih =>
        intro k hk
        have ih' := ih (k + 1) (by omega)
        have ht := hb.td (show k / 10 < sn s by omega) (show k % 10 < 10 by omega)
        rw [show 10 * (k / 10) + k % 10 = k by omega] at ht
        have h4 := hw.td (show k / 10 < sn s by omega) (k % 10)
        refine ⟨nI (sn s), by rw [gF_Rm_2, hb.2.1], fun q => ?_, fun _ => ⟨fun q => absurd rfl q, fun _ => ?_⟩⟩
        · rw [show (10 : Int32) = nI 10 from rfl, pk_mul, nI_leI (by omega) (by omega)] at q
          omega
        · unfold wp_Rm_count_106
          simp only [Option.some.injEq, Sum.inl.injEq, Sum.inr.injEq, Prod.mk.injEq, and_assoc, exists_eq_left', exists_eq_left, exists_and_left, exists_and_right, exists_eq', exists_eq, forall_eq, forall_eq', true_and, and_true, exists_const, Hm_1, gF_Rm_6, gA_Rto, vp_in_nI (show k < 120 by omega) (show 120 < 2 ^ 31 by decide), nI_clamp (show k < 2 ^ 31 by omega), ht, n_le0 (show std s (k / 10) (k % 10) < 2 ^ 31 by omega), nI_1]
          simp only [cT, sumTo] at ih' ⊢
          refine ⟨fun q => ?_, fun q => ?_⟩
          · simpa [q] using ih'
          · simpa [show 0 < std s (k / 10) (k % 10) by omega] using ih'
    exact ⟨10 * sn s + 1, key (10 * sn s) 0 (by omega)⟩
  · have hq : wp_Rm_count_113 Post 113 (nI w) 0 (Hm mu l) := by
      refine cnt115 (n0 := 0) hb hw hw2 ?_ (fun _ => rfl)
      rw [if_neg h1] at hp
      by_cases h5 : w = 5
      · subst h5; exact hp
      · rw [if_neg h5]
        by_cases h4 : w = 4
        · subst h4; exact hp
        · rw [if_neg h4]; rw [if_neg h4] at hp
          rcases (show w = 0 ∨ w = 2 ∨ w = 3 by omega) with rfl | rfl | rfl <;> exact hp
    exact ⟨1, ⟨nI (sn s), by rw [gF_Rm_2, hb.2.1], fun _ => hq, fun _ => ⟨fun _ => hq, fun q => absurd (w1.mp q) h1⟩⟩⟩
theorem rs_count {Post : Int32 → MH → Prop} {s : SG} {mu : Nat → Nat → Int32} {l : Nat → Int64} (hr : RR s mu l) (hw : WF s) (x : Int32) (hp : ∀ mu2, RR s mu2 l → SC mu mu2 → Post (o_count s x) (Hm mu2 l)) : wp_Rm_count Post 113 x (Hm mu l) := by
  have h0 := RR_0 hr 0
  have h12 := hw.n
  have s0 : SC mu (up mu 113 0 0) := SC.up mu (by decide) _ _
  have hq := hp _ h0 s0
  unfold wp_Rm_count
  simp only [Option.some.injEq, Sum.inl.injEq, Sum.inr.injEq, Prod.mk.injEq, and_assoc, exists_eq_left', exists_eq_left, exists_and_left, exists_and_right, exists_eq', exists_eq, forall_eq, forall_eq', true_and, and_true, exists_const, Hm_1, gF_Rm_0, fs_Rm_0, sp_in2, bI_0, show ((-7 : Int64)).toInt = -7 from rfl, show ((-1 : Int64)).toInt = -1 from rfl, show ((0 : Int64)).toInt = 0 from rfl, show ((1 : Int64)).toInt = 1 from rfl, show ((2 : Int64)).toInt = 2 from rfl, show ((3 : Int64)).toInt = 3 from rfl, show ((5 : Int64)).toInt = 5 from rfl, show ((6 : Int64)).toInt = 6 from rfl, show ((7 : Int64)).toInt = 7 from rfl, show ((9 : Int64)).toInt = 9 from rfl, show ((14 : Int64)).toInt = 14 from rfl, show ((24 : Int64)).toInt = 24 from rfl, show ((127 : Int64)).toInt = 127 from rfl]
  unfold o_count at hq
  cases e : inI x 0 14
  · rw [e] at hq
    exact ⟨fun q => absurd rfl q, fun _ => hq⟩
  rw [e] at hq
  simp only [if_true] at hq
  refine ⟨fun _ => ?_, fun q => by cases q⟩
  have hx := inI_ix (b := 14) (by decide) e
  generalize ix x = w at hx hq
  rw [hx.1]
  have r0 := h0.1.2.2.2.2.2.1
  have c5 : nI w ≤ 5 ↔ w ≤ 5 := nI_leI (by omega) (by decide)
  have c9 : 9 ≤ nI w ↔ 9 ≤ w := nI_leI (a := 9) (by decide) (by omega)
  have c12 : 12 ≤ nI w ↔ 12 ≤ w := nI_leI (a := 12) (by decide) (by omega)
  rw [c5, c9, c12]
  refine ⟨fun h5 => ?_, fun h5 => ⟨fun h9 => ⟨fun h2 => ?_, fun h2 => ?_⟩, fun h9 => ?_⟩⟩
  · refine cnt74 h0.1 hw h5 ?_
    rcases (show w = 0 ∨ w = 1 ∨ w = 2 ∨ w = 3 ∨ w = 4 ∨ w = 5 by omega) with rfl | rfl | rfl | rfl | rfl | rfl <;> exact hq
  · rw [if_neg (by omega), if_neg (by omega), if_neg (by omega), if_neg (by omega), if_neg (by omega), if_neg (by omega), if_neg (by omega), if_neg (by omega)] at hq
    simp only [Option.some.injEq, Sum.inl.injEq, Sum.inr.injEq, Prod.mk.injEq, and_assoc, exists_eq_left', exists_eq_left, exists_and_left, exists_and_right, exists_eq', exists_eq, forall_eq, forall_eq', true_and, and_true, exists_const, Hm_1, gC_Rm, gF_Rm_0, fs_Rm_0, gF_Rm_1, fs_Rm_1, gF_Rm_2, fs_Rm_2, gF_Rm_3, gF_Rm_4, gF_Rm_5, gF_Rm_6, gF_Rm_7, gF_Rm_8, gF_Rm_9, gF_Rm_10, fs_Rm_10, gF_Rm_11, gF_Rm_12, gF_Rm_13, gF_Rm_14, gF_Rm_15, gF_Rm_16, gF_Rm_17, gF_Rm_18, gF_Rm_19, fs_Rm_19, gF_Rm_20, gF_Rm_21, gF_Rm_22, gF_Rm_23, gF_Rm_24, fs_Rm_24, gF_Rm_25, gA_Rle, ms_Rle, gA_Roc, ms_Roc, gA_Ral, ms_Ral, gA_Rto, ms_Rto, gA_Rlo, ms_Rlo, gA_Rhi, ms_Rhi, gA_Rho, ms_Rho, gA_Rgi, ms_Rgi, gA_Rha, ms_Rha, gA_Ris, ms_Ris, gA_Rno, ms_Rno, gA_Rbe, ms_Rbe, gA_Rtn, ms_Rtn, gA_Rsu, ms_Rsu, gA_Rfa, ms_Rfa, gA_Rpi, ms_Rpi, gA_Rsi, ms_Rsi, gA_Rre, ms_Rre, gL_Rro, ms_Rro, gA_Rch, ms_Rch, show nI w - 12 = nI (w - 12) from pk_sub h2, vp_in_nI (show w - 12 < 3 by omega) (show 3 < 2 ^ 31 by decide), nI_clamp (show w - 12 < 2 ^ 31 by omega), (r0 (w - 12) (by omega)).2.2]
    exact hq
  · rw [if_neg (by omega), if_neg (by omega), if_neg (by omega), if_neg (by omega), if_neg (by omega), if_neg (by omega), if_neg (by omega), if_pos (by omega)] at hq
    simp only [Option.some.injEq, Sum.inl.injEq, Sum.inr.injEq, Prod.mk.injEq, and_assoc, exists_eq_left', exists_eq_left, exists_and_left, exists_and_right, exists_eq', exists_eq, forall_eq, forall_eq', true_and, and_true, exists_const, Hm_1, gC_Rm, gF_Rm_0, fs_Rm_0, gF_Rm_1, fs_Rm_1, gF_Rm_2, fs_Rm_2, gF_Rm_3, gF_Rm_4, gF_Rm_5, gF_Rm_6, gF_Rm_7, gF_Rm_8, gF_Rm_9, gF_Rm_10, fs_Rm_10, gF_Rm_11, gF_Rm_12, gF_Rm_13, gF_Rm_14, gF_Rm_15, gF_Rm_16, gF_Rm_17, gF_Rm_18, gF_Rm_19, fs_Rm_19, gF_Rm_20, gF_Rm_21, gF_Rm_22, gF_Rm_23, gF_Rm_24, fs_Rm_24, gF_Rm_25, gA_Rle, ms_Rle, gA_Roc, ms_Roc, gA_Ral, ms_Ral, gA_Rto, ms_Rto, gA_Rlo, ms_Rlo, gA_Rhi, ms_Rhi, gA_Rho, ms_Rho, gA_Rgi, ms_Rgi, gA_Rha, ms_Rha, gA_Ris, ms_Ris, gA_Rno, ms_Rno, gA_Rbe, ms_Rbe, gA_Rtn, ms_Rtn, gA_Rsu, ms_Rsu, gA_Rfa, ms_Rfa, gA_Rpi, ms_Rpi, gA_Rsi, ms_Rsi, gA_Rre, ms_Rre, gL_Rro, ms_Rro, gA_Rch, ms_Rch, show nI w - 9 = nI (w - 9) from pk_sub h9, vp_in_nI (show w - 9 < 3 by omega) (show 3 < 2 ^ 31 by decide), nI_clamp (show w - 9 < 2 ^ 31 by omega), (r0 (w - 9) (by omega)).2.1]
    exact hq
  · rw [if_neg (by omega), if_neg (by omega), if_neg (by omega), if_neg (by omega), if_neg (by omega), if_neg (by omega), if_pos (by omega)] at hq
    simp only [Option.some.injEq, Sum.inl.injEq, Sum.inr.injEq, Prod.mk.injEq, and_assoc, exists_eq_left', exists_eq_left, exists_and_left, exists_and_right, exists_eq', exists_eq, forall_eq, forall_eq', true_and, and_true, exists_const, Hm_1, gC_Rm, gF_Rm_0, fs_Rm_0, gF_Rm_1, fs_Rm_1, gF_Rm_2, fs_Rm_2, gF_Rm_3, gF_Rm_4, gF_Rm_5, gF_Rm_6, gF_Rm_7, gF_Rm_8, gF_Rm_9, gF_Rm_10, fs_Rm_10, gF_Rm_11, gF_Rm_12, gF_Rm_13, gF_Rm_14, gF_Rm_15, gF_Rm_16, gF_Rm_17, gF_Rm_18, gF_Rm_19, fs_Rm_19, gF_Rm_20, gF_Rm_21, gF_Rm_22, gF_Rm_23, gF_Rm_24, fs_Rm_24, gF_Rm_25, gA_Rle, ms_Rle, gA_Roc, ms_Roc, gA_Ral, ms_Ral, gA_Rto, ms_Rto, gA_Rlo, ms_Rlo, gA_Rhi, ms_Rhi, gA_Rho, ms_Rho, gA_Rgi, ms_Rgi, gA_Rha, ms_Rha, gA_Ris, ms_Ris, gA_Rno, ms_Rno, gA_Rbe, ms_Rbe, gA_Rtn, ms_Rtn, gA_Rsu, ms_Rsu, gA_Rfa, ms_Rfa, gA_Rpi, ms_Rpi, gA_Rsi, ms_Rsi, gA_Rre, ms_Rre, gL_Rro, ms_Rro, gA_Rch, ms_Rch, show nI w - 6 = nI (w - 6) from pk_sub (show 6 ≤ w by omega), vp_in_nI (show w - 6 < 3 by omega) (show 3 < 2 ^ 31 by decide), nI_clamp (show w - 6 < 2 ^ 31 by omega), (r0 (w - 6) (by omega)).1]
    exact hq
