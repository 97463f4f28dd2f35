theorem ite_n0 {c : Prop} [Decidable c] {n m : Nat} (hn : ¬ n = 0) : (if c then n else m) = 0 ↔ ¬ c ∧ m = 0 := by by_cases h : c <;> simp [h, hn]
theorem ite_n1 {c : Prop} [Decidable c] {n m : Nat} (hn : ¬ n = 0) : (if c then m else n) = 0 ↔ c ∧ m = 0 := by by_cases h : c <;> simp [h, hn]
theorem alone_0 (s : SG) (i a b c : Nat) : alone s i a b c = 0 ↔ ((inR s 0 a && inR s 1 b && inR s 2 c) = true ∧ (okc s i a && okc s i b && okc s i c) = true ∧ tmI s i 8 &&& (bits4 a b c (bN s i) ^^^ (-1)) = 0 ∧ ¬ (a < b ∨ b < c ∨ c < bN s i) ∧ ¬ (b + 12 < a ∨ c + 12 < b) ∧ ¬ 1 < ldc s a + ldc s b + ldc s c + ldc s (bN s i) ∧ ¬ (stray s i 0 a || stray s i 1 b || stray s i 2 c) = true) := by
  unfold alone r2 r3 r4 r5 r6 r7
  rw [ite_n1 (by decide), ite_n1 (by decide), ite_n1 (by decide), ite_n0 (by decide), ite_n0 (by decide), ite_n0 (by decide), ite_n0 (by decide)]
  simp only [and_true]
theorem VLc_no (s : SG) (i a b : Nat) : ∀ n c, (∀ x, c ≤ x → x < c + n → ¬ alone s i a b x = 0) → VLc s i a b c n = [] := by
  intro n
  induction n with
  | zero => intro c _; rfl
  | succ n ih =>
    intro c h
    unfold VLc
    rw [if_neg (h c (by omega) (by omega)), ih (c + 1) (fun x h1 h2 => h x (by omega) (by omega))]
    rfl
def St (i : Nat) (m9 : Nat → Int32) (P : List (Nat × Nat × Nat)) : Prop := ∀ k, k < P.length → m9 (3 * (800 * i + k)) = nI (P.getD k (0, 0, 0)).1 ∧ m9 (3 * (800 * i + k) + 1) = nI (P.getD k (0, 0, 0)).2.1 ∧ m9 (3 * (800 * i + k) + 2) = nI (P.getD k (0, 0, 0)).2.2
def Fr (i : Nat) (mu mu2 : Nat → Nat → Int32) : Prop := (∀ k, ¬ (124 ≤ k ∧ k ≤ 130 ∧ ¬ k = 125) → mu2 k = mu k) ∧ (∀ k j, ¬ k = 124 → ¬ k = 129 → ¬ j = i → mu2 k j = mu k j) ∧ (∀ q, ¬ (2400 * i ≤ q ∧ q < 2400 * i + 2400) → mu2 129 q = mu 129 q)
theorem Fr.rf (i : Nat) (mu : Nat → Nat → Int32) : Fr i mu mu := ⟨fun _ _ => rfl, fun _ _ _ _ _ => rfl, fun _ _ => rfl⟩
theorem Fr.tr {i : Nat} {a b c : Nat → Nat → Int32} (h : Fr i a b) (g : Fr i b c) : Fr i a c := ⟨fun k hk => (g.1 k hk).trans (h.1 k hk), fun k j h1 h2 h3 => (g.2.1 k j h1 h2 h3).trans (h.2.1 k j h1 h2 h3), fun q hq => (g.2.2 q hq).trans (h.2.2 q hq)⟩
theorem Fr.u4 (i : Nat) (mu : Nat → Nat → Int32) (j : Nat) (v : Int32) : Fr i mu (up mu 124 j v) := ⟨fun k hk => up_k (by omega), fun k _ h _ _ => by rw [up_k h], fun q _ => by rw [up_k (by decide)]⟩
theorem Fr.ui (i : Nat) (mu : Nat → Nat → Int32) {k : Nat} (hk : k = 126 ∨ k = 127 ∨ k = 128 ∨ k = 130) (v : Int32) : Fr i mu (up mu k i v) := ⟨fun q hq => up_k (by omega), fun q j _ _ h3 => by rw [up_ap, if_neg (fun e => h3 e.2)], fun q _ => by rw [up_k (by omega)]⟩
theorem Fr.u9 (i : Nat) (mu : Nat → Nat → Int32) {q : Nat} (hq : 2400 * i ≤ q ∧ q < 2400 * i + 2400) (v : Int32) : Fr i mu (up mu 129 q v) := ⟨fun k hk => up_k (by omega), fun k _ _ h2 _ => by rw [up_k h2], fun r hr => by rw [up_j (fun e => hr (by omega))]⟩
theorem RB_Fr {s : SG} {i : Nat} {mu mu2 : Nat → Nat → Int32} (hb : RB s mu) (h : Fr i mu mu2) : RB s mu2 := RB_of hb (by rw [h.1 113 (by omega)]) (by rw [h.1 113 (by omega)]) (by rw [h.1 113 (by omega)]) (fun k h1 h2 => h.1 k (by omega))
def TI (s : SG) (i : Nat) (mu m : Nat → Nat → Int32) (P : List (Nat × Nat × Nat)) : Prop := Fr i mu m ∧ m 126 i = tmI s i 8 ∧ m 127 i = smI s i 8 ∧ m 128 i = fmI s i 8 ∧ m 124 3 = nI (bN s i) ∧ m 130 i = nI P.length ∧ St i (m 129) P
theorem TI.u4 {s : SG} {i : Nat} {mu m : Nat → Nat → Int32} {P : List (Nat × Nat × Nat)} (h : TI s i mu m P) {j : Nat} (hj : j < 3) (v : Int32) : TI s i mu (up m 124 j v) P := by
  refine ⟨h.1.tr (Fr.u4 i m j v), ?_, ?_, ?_, ?_, ?_, ?_⟩
  · rw [up_k (by decide)]; exact h.2.1
  · rw [up_k (by decide)]; exact h.2.2.1
  · rw [up_k (by decide)]; exact h.2.2.2.1
  · rw [up_j (by omega)]; exact h.2.2.2.2.1
  · rw [up_k (by decide)]; exact h.2.2.2.2.2.1
  · rw [up_k (by decide)]; exact h.2.2.2.2.2.2
theorem TI.add {s : SG} {i : Nat} {mu m : Nat → Nat → Int32} {P : List (Nat × Nat × Nat)} (h : TI s i mu m P) (hP : P.length < 800) (a b c : Nat) : TI s i mu (up (up (up (up m 129 (3 * (800 * i + P.length)) (nI a)) 129 (3 * (800 * i + P.length) + 1) (nI b)) 129 (3 * (800 * i + P.length) + 2) (nI c)) 130 i (nI (P.length + 1))) (P ++ [(a, b, c)]) := by
  refine ⟨(((h.1.tr (Fr.u9 i _ (by omega) _)).tr (Fr.u9 i _ (by omega) _)).tr (Fr.u9 i _ (by omega) _)).tr (Fr.ui i _ (by omega) _), ?_, ?_, ?_, ?_, ?_, ?_⟩
  · rw [up_k (by decide), up_k (by decide), up_k (by decide), up_k (by decide)]; exact h.2.1
  · rw [up_k (by decide), up_k (by decide), up_k (by decide), up_k (by decide)]; exact h.2.2.1
  · rw [up_k (by decide), up_k (by decide), up_k (by decide), up_k (by decide)]; exact h.2.2.2.1
  · rw [up_k (by decide), up_k (by decide), up_k (by decide), up_k (by decide)]; exact h.2.2.2.2.1
  · rw [up_at]; simp
  · intro k hk
    rw [up_k (show ¬ 129 = 130 by decide)]
    simp only [List.length_append, List.length_cons, List.length_nil] at hk
    by_cases e : k = P.length
    · subst e
      have : (P ++ [(a, b, c)]).getD P.length (0, 0, 0) = (a, b, c) := by simp
      rw [this]
      refine ⟨?_, ?_, ?_⟩
      · rw [up_j (by omega), up_j (by omega), up_at]
      · rw [up_j (by omega), up_at]
      · rw [up_at]
    · have hk2 : k < P.length := by omega
      have : (P ++ [(a, b, c)]).getD k (0, 0, 0) = P.getD k (0, 0, 0) := by
        simp [List.getD_eq_getElem?_getD, List.getElem?_append_left hk2]
      rw [this]
      have h3 := h.2.2.2.2.2.2 k hk2
      refine ⟨?_, ?_, ?_⟩
      · rw [up_j (by omega), up_j (by omega), up_j (by omega)]; exact h3.1
      · rw [up_j (by omega), up_j (by omega), up_j (by omega)]; exact h3.2.1
      · rw [up_j (by omega), up_j (by omega), up_j (by omega)]; exact h3.2.2
set_option maxHeartbeats 1000000 in
theorem ta65 {K30 : Nat → Int32 → Int32 → MH → Prop} {K47 : Nat → Int32 → Int32 → Int32 → MH → Prop} {Post : MH → Prop} {s : SG} {mu : Nat → Nat → Int32} {l : Nat → Int64} (hb : RB s mu) (hw : WF s) {i : Nat} (hi : i < sn s) {a b : Nat} (ha : a ≤ 127) (hb2 : b ≤ 127) : ∀ (n c : Nat) (m : Nat → Nat → Int32) (P : List (Nat × Nat × Nat)), c + n = shi s 2 + 1 → TI s i mu m P → (P ++ VLc s i a b c n).length ≤ 800 → (∀ m2, TI s i mu m2 (P ++ VLc s i a b c n) → K47 113 (nI i) (nI a) (nI (b + 1)) (Hm m2 l)) → wn_Rm_tryAll_65 K30 K47 Post (n + 1) 113 (nI i) (nI a) (nI b) (nI c) (Hm m l) := by
  have h12 := hw.n
  have hr := hw.2.2.2.2.2.1 2 (by decide)
  intro n
  induction n with
  | zero =>
    intro c m P hc hT hL hK
    have hbm := RB_Fr hb hT.1
    show wb_Rm_tryAll_65 _ _ _ _ _ _ _ _ _ _
    unfold wb_Rm_tryAll_65 wp_Rm_tryAll_198
    simp only [Option.some.injEq, Sum.inl.injEq, Sum.inr.injEq, Prod.mk.injEq, and_assoc, exists_eq_left', exists_eq_left, exists_and_left, exists_and_right, exists_eq', exists_eq, forall_eq, forall_eq', true_and, and_true, exists_const, Hm_1, gF_Rm_8, gA_Rhi, show vp_in 2 3 from (by unfold vp_in; decide), show ((2 : Int32)).toNatClampNeg = 2 from rfl, (hbm.2.2.2.2.2.1 2 (by decide)).2.1, nI_ltI (show shi s 2 < 2 ^ 31 by omega) (show c < 2 ^ 31 by omega), nI_1]
    refine ⟨fun _ => ?_, fun q => absurd (by omega) q⟩
    have := hK m (by simpa [VLc] using hT)
    exact this
  | succ n ih =>
    intro c m P hc hT hL hK
    have hbm := RB_Fr hb hT.1
    show wb_Rm_tryAll_65 _ _ _ _ _ _ _ _ _ _
    unfold wb_Rm_tryAll_65 wp_Rm_tryAll_198 wp_Rm_tryAll_192
    simp only [Option.some.injEq, Sum.inl.injEq, Sum.inr.injEq, Prod.mk.injEq, and_assoc, exists_eq_left', exists_eq_left, exists_and_left, exists_and_right, exists_eq', exists_eq, forall_eq, forall_eq', true_and, and_true, exists_const, Hm_1, gF_Rm_8, gF_Rm_14, gA_Rhi, gA_Rno, ms_Rno, show vp_in 2 3 from (by unfold vp_in; decide), show vp_in 0 4 from (by unfold vp_in; decide), show vp_in 1 4 from (by unfold vp_in; decide), show vp_in 2 4 from (by unfold vp_in; decide), show ((0 : Int32)).toNatClampNeg = 0 from rfl, show ((1 : Int32)).toNatClampNeg = 1 from rfl, show ((2 : Int32)).toNatClampNeg = 2 from rfl, (hbm.2.2.2.2.2.1 2 (by decide)).2.1, nI_ltI (show shi s 2 < 2 ^ 31 by omega) (show c < 2 ^ 31 by omega), nI_ltI (show a < 2 ^ 31 by omega) (show b < 2 ^ 31 by omega), nI_ltI (show b < 2 ^ 31 by omega) (show c < 2 ^ 31 by omega), nI_1]
    refine ⟨fun q => absurd q (by omega), fun _ => ⟨fun q => ?_, fun q => ?_⟩⟩
    · have e : VLc s i a b c (n + 1) = [] := VLc_no s i a b _ _ (fun x _ _ e => ((alone_0 s i a b x).mp e).2.2.2.1 (Or.inl q))
      rw [e, List.append_nil] at hK
      exact hK m hT
    · have hT2 := ((hT.u4 (j := 0) (by decide) (nI a)).u4 (j := 1) (by decide) (nI b)).u4 (j := 2) (by decide) (nI c)
      have hnow : Now (up (up (up m 124 0 (nI a)) 124 1 (nI b)) 124 2 (nI c)) a b c (bN s i) := by
        refine ⟨?_, ?_, ?_, hT2.2.2.2.2.1⟩
        · rw [up_j (by decide), up_j (by decide), up_at]
        · rw [up_j (by decide), up_at]
        · rw [up_at]
      have hbm2 := RB_Fr hb hT2.1
      generalize up (up (up m 124 0 (nI a)) 124 1 (nI b)) 124 2 (nI c) = m2 at hT2 hnow hbm2 ⊢
      have hC : c ≤ 127 := by omega
      have no : ¬ alone s i a b c = 0 → wn_Rm_tryAll_65 K30 K47 Post (n + 1) 113 (nI i) (nI a) (nI b) (nI (c + 1)) (Hm m2 l) := by
        intro e
        unfold VLc at hL hK
        rw [if_neg e, List.nil_append] at hL hK
        exact ih (c + 1) m2 P (by omega) hT2 hL hK
      refine ⟨fun q2 => no (fun e => ((alone_0 s i a b c).mp e).2.2.2.1 (Or.inr (Or.inl q2))), fun q2 => ⟨gC_Rm _ l, ?_⟩⟩
      refine sp_Rm_aloneRule hbm2 hw hi hnow ha hb2 hC hT2.2.1 ?_
      have hal := alone_le s i a b c
      rw [n_eq0 (by omega)]
      refine ⟨no, fun e => ?_⟩
      unfold VLc at hL hK
      rw [if_pos e] at hL hK
      have hP : P.length < 800 := by simp only [List.length_append, List.length_cons] at hL; omega
      have hv : vp_in (nI i) 12 := vp_in_nI (by omega) (by decide)
      have hc2 : (nI i).toNatClampNeg = i := nI_clamp (by omega)
      have q9 : ∀ (X : Nat → Nat → Int32) (q : Nat) (v : Int32), up X 129 q v 130 i = X 130 i := fun X q v => by rw [up_k (by decide)]
      simp only [Option.some.injEq, Sum.inl.injEq, Sum.inr.injEq, Prod.mk.injEq, and_assoc, exists_eq_left', exists_eq_left, exists_and_left, exists_and_right, exists_eq', exists_eq, forall_eq, forall_eq', true_and, and_true, exists_const, Hm_1, gF_Rm_20, gF_Rm_21, gA_Rsi, gA_Rpi, ms_Rpi, ms_Rsi, hv, hc2, q9, hT2.2.2.2.2.2.1, show (3 : Int32) = nI 3 from rfl, show (800 : Int32) = nI 800 from rfl, show (2 : Int32) = nI 2 from rfl, pk_mul, nI_add, nI_1, vp_in_nI (show 3 * (800 * i + P.length) < 28800 by omega) (show 28800 < 2 ^ 31 by decide), vp_in_nI (show 3 * (800 * i + P.length) + 1 < 28800 by omega) (show 28800 < 2 ^ 31 by decide), vp_in_nI (show 3 * (800 * i + P.length) + 2 < 28800 by omega) (show 28800 < 2 ^ 31 by decide), nI_clamp (show 3 * (800 * i + P.length) < 2 ^ 31 by omega), nI_clamp (show 3 * (800 * i + P.length) + 1 < 2 ^ 31 by omega), nI_clamp (show 3 * (800 * i + P.length) + 2 < 2 ^ 31 by omega)]
      refine ih (c + 1) _ (P ++ [(a, b, c)]) (by omega) (hT2.add hP a b c) (by simpa using hL) (fun m3 h3 => hK m3 (by simpa using h3))
set_option maxHeartbeats 1000000 in
theorem ta47 {K30 : Nat → Int32 → Int32 → MH → Prop} {Post : MH → Prop} {s : SG} {mu : Nat → Nat → Int32} {l : Nat → Int64} (hb : RB s mu) (hw : WF s) {i : Nat} (hi : i < sn s) {a : Nat} (ha : a ≤ 127) : ∀ (n b : Nat) (m : Nat → Nat → Int32) (P : List (Nat × Nat × Nat)), b + n = shi s 1 + 1 → TI s i mu m P → (P ++ VLb s i a b n).length ≤ 800 → (∀ m2, TI s i mu m2 (P ++ VLb s i a b n) → K30 113 (nI i) (nI (a + 1)) (Hm m2 l)) → wn_Rm_tryAll_47 K30 Post (n + 1) 113 (nI i) (nI a) (nI b) (Hm m l) := by
  have hr := hw.2.2.2.2.2.1 1 (by decide)
  have hr2 := hw.2.2.2.2.2.1 2 (by decide)
  intro n
  induction n with
  | zero =>
    intro b m P hc hT hL hK
    have hbm := RB_Fr hb hT.1
    show wb_Rm_tryAll_47 _ _ _ _ _ _ _ _
    unfold wb_Rm_tryAll_47
    simp only [Option.some.injEq, Sum.inl.injEq, Sum.inr.injEq, Prod.mk.injEq, and_assoc, exists_eq_left', exists_eq_left, exists_and_left, exists_and_right, exists_eq', exists_eq, forall_eq, forall_eq', true_and, and_true, exists_const, Hm_1, gF_Rm_8, gF_Rm_7, gA_Rhi, gA_Rlo, show vp_in 1 3 from (by unfold vp_in; decide), show ((1 : Int32)).toNatClampNeg = 1 from rfl, (hbm.2.2.2.2.2.1 1 (by decide)).2.1, nI_ltI (show shi s 1 < 2 ^ 31 by omega) (show b < 2 ^ 31 by omega), nI_1]
    refine ⟨fun _ => ?_, fun q => absurd (by omega) q⟩
    exact hK m (by simpa [VLb] using hT)
  | succ n ih =>
    intro b m P hc hT hL hK
    have hbm := RB_Fr hb hT.1
    show wb_Rm_tryAll_47 _ _ _ _ _ _ _ _
    unfold wb_Rm_tryAll_47
    simp only [Option.some.injEq, Sum.inl.injEq, Sum.inr.injEq, Prod.mk.injEq, and_assoc, exists_eq_left', exists_eq_left, exists_and_left, exists_and_right, exists_eq', exists_eq, forall_eq, forall_eq', true_and, and_true, exists_const, Hm_1, gF_Rm_8, gF_Rm_7, gA_Rhi, gA_Rlo, show vp_in 1 3 from (by unfold vp_in; decide), show vp_in 2 3 from (by unfold vp_in; decide), show ((1 : Int32)).toNatClampNeg = 1 from rfl, show ((2 : Int32)).toNatClampNeg = 2 from rfl, (hbm.2.2.2.2.2.1 1 (by decide)).2.1, (hbm.2.2.2.2.2.1 2 (by decide)).1, nI_ltI (show shi s 1 < 2 ^ 31 by omega) (show b < 2 ^ 31 by omega), nI_1]
    refine ⟨fun q => absurd q (by omega), fun _ => ⟨shi s 2 + 1 - slo s 2 + 1, ?_⟩⟩
    unfold VLb at hL hK
    rw [← List.append_assoc] at hL hK
    refine ta65 hb hw hi ha (by omega) _ (slo s 2) m P (by omega) hT (by simp only [List.length_append] at hL ⊢; omega) (fun m2 h2 => ?_)
    exact ih (b + 1) m2 _ (by omega) h2 hL hK
set_option maxHeartbeats 1000000 in
theorem ta30 {Post : MH → Prop} {s : SG} {mu : Nat → Nat → Int32} {l : Nat → Int64} (hb : RB s mu) (hw : WF s) {i : Nat} (hi : i < sn s) : ∀ (n a : Nat) (m : Nat → Nat → Int32) (P : List (Nat × Nat × Nat)), a + n = shi s 0 + 1 → TI s i mu m P → (P ++ VLa s i a n).length ≤ 800 → (∀ m2, TI s i mu m2 (P ++ VLa s i a n) → Post (Hm m2 l)) → wn_Rm_tryAll_30 Post (n + 1) 113 (nI i) (nI a) (Hm m l) := by
  have hr := hw.2.2.2.2.2.1 0 (by decide)
  have hr2 := hw.2.2.2.2.2.1 1 (by decide)
  intro n
  induction n with
  | zero =>
    intro b m P hc hT hL hK
    have hbm := RB_Fr hb hT.1
    show wb_Rm_tryAll_30 _ _ _ _ _ _
    unfold wb_Rm_tryAll_30
    simp only [Option.some.injEq, Sum.inl.injEq, Sum.inr.injEq, Prod.mk.injEq, and_assoc, exists_eq_left', exists_eq_left, exists_and_left, exists_and_right, exists_eq', exists_eq, forall_eq, forall_eq', true_and, and_true, exists_const, Hm_1, gF_Rm_8, gF_Rm_7, gA_Rhi, gA_Rlo, show vp_in 0 3 from (by unfold vp_in; decide), show ((0 : Int32)).toNatClampNeg = 0 from rfl, (hbm.2.2.2.2.2.1 0 (by decide)).2.1, nI_ltI (show shi s 0 < 2 ^ 31 by omega) (show b < 2 ^ 31 by omega), nI_1]
    refine ⟨fun _ => ?_, fun q => absurd (by omega) q⟩
    exact hK m (by simpa [VLa] using hT)
  | succ n ih =>
    intro b m P hc hT hL hK
    have hbm := RB_Fr hb hT.1
    show wb_Rm_tryAll_30 _ _ _ _ _ _
    unfold wb_Rm_tryAll_30
    simp only [Option.some.injEq, Sum.inl.injEq, Sum.inr.injEq, Prod.mk.injEq, and_assoc, exists_eq_left', exists_eq_left, exists_and_left, exists_and_right, exists_eq', exists_eq, forall_eq, forall_eq', true_and, and_true, exists_const, Hm_1, gF_Rm_8, gF_Rm_7, gA_Rhi, gA_Rlo, show vp_in 1 3 from (by unfold vp_in; decide), show vp_in 0 3 from (by unfold vp_in; decide), show ((1 : Int32)).toNatClampNeg = 1 from rfl, show ((0 : Int32)).toNatClampNeg = 0 from rfl, (hbm.2.2.2.2.2.1 0 (by decide)).2.1, (hbm.2.2.2.2.2.1 1 (by decide)).1, nI_ltI (show shi s 0 < 2 ^ 31 by omega) (show b < 2 ^ 31 by omega), nI_1]
    refine ⟨fun q => absurd q (by omega), fun _ => ⟨shi s 1 + 1 - slo s 1 + 1, ?_⟩⟩
    unfold VLa at hL hK
    rw [← List.append_assoc] at hL hK
    refine ta47 hb hw hi (by omega) _ (slo s 1) m P (by omega) hT (by simp only [List.length_append] at hL ⊢; omega) (fun m2 h2 => ?_)
    exact ih (b + 1) m2 _ (by omega) h2 hL hK
theorem sp_Rm_tryAll {Post : MH → Prop} {s : SG} {mu : Nat → Nat → Int32} {l : Nat → Int64} (hb : RB s mu) (hw : WF s) {i : Nat} (hi : i < sn s) (hL : sz s i ≤ 800) (hp : ∀ m2, TI s i mu m2 (VL s i) → Post (Hm m2 l)) : wp_Rm_tryAll Post 113 (nI i) (Hm mu l) := by
  have h12 := hw.n
  have hr := hw.2.2.2.2.2.1 0 (by decide)
  have hv : vp_in (nI i) 12 := vp_in_nI (by omega) (by decide)
  have hc : (nI i).toNatClampNeg = i := nI_clamp (by omega)
  unfold wp_Rm_tryAll
  simp only [Option.some.injEq, Sum.inl.injEq, Sum.inr.injEq, Prod.mk.injEq, and_assoc, exists_eq_left', exists_eq_left, exists_and_left, exists_and_right, exists_eq', exists_eq, forall_eq, forall_eq', true_and, and_true, exists_const, Hm_1, gF_Rm_21, gA_Rsi, ms_Rsi, hv, hc, gC_Rm]
  have hb1 : RB s (up mu 130 i 0) := RB_up hb (by omega) _ _
  refine sp_Rm_look _ hb1 hw hi l ?_
  have hb2 := RB_L3 hb1 i (tmI s i 8) (smI s i 8) (fmI s i 8)
  simp only [Option.some.injEq, Sum.inl.injEq, Sum.inr.injEq, Prod.mk.injEq, and_assoc, exists_eq_left', exists_eq_left, exists_and_left, exists_and_right, exists_eq', exists_eq, forall_eq, forall_eq', true_and, and_true, exists_const, Hm_1, gF_Rm_14, gF_Rm_7, gC_Rm, gA_Rno, ms_Rno, gA_Rlo, sp_Rm_bassOf _ hb2 hw hi, show vp_in 3 4 from (by unfold vp_in; decide), show ((3 : Int32)).toNatClampNeg = 3 from rfl, show vp_in 0 3 from (by unfold vp_in; decide), show ((0 : Int32)).toNatClampNeg = 0 from rfl]
  have hT : TI s i mu (up (L3 (up mu 130 i 0) i (tmI s i 8) (smI s i 8) (fmI s i 8)) 124 3 (nI (bN s i))) [] := by
    refine ⟨?_, ?_, ?_, ?_, up_at .., ?_, fun k hk => by simp at hk⟩
    · unfold L3
      exact ((((Fr.ui i mu (by omega) _).tr (Fr.ui i _ (by omega) _)).tr (Fr.ui i _ (by omega) _)).tr (Fr.ui i _ (by omega) _)).tr (Fr.u4 i _ _ _)
    · rw [up_k (by decide)]; exact L3_r1 ..
    · rw [up_k (by decide)]; exact L3_r2 ..
    · rw [up_k (by decide)]; exact L3_r3 ..
    · unfold L3
      rw [up_k (by decide), up_k (by decide), up_k (by decide), up_k (by decide), up_at]; rfl
  have hb3 := RB_Fr hb hT.1
  rw [(hb3.2.2.2.2.2.1 0 (by decide)).1]
  exact ⟨_, ta30 hb hw hi (shi s 0 + 1 - slo s 0) (slo s 0) _ [] (by omega) hT (by rw [List.nil_append]; exact hL) (fun m2 h2 => hp m2 h2)⟩
