theorem sp_Ch_takes (Post : Int32 → MH → Prop) {t : SG} {mu : Nat → Nat → Int32} {i : Nat} (h12 : i < 12) (hc : CT t i mu) {x : Nat} (hx : x ≤ 127) (l : Nat → Int64) : wp_Ch_takes Post (8 + 8 * i) (nI x) (Hm mu l) ↔ Post (bI (okc t i x)) (Hm mu l) := by
  unfold wp_Ch_takes
  simp only [sp_Br_classBit _ (show x < 2 ^ 31 by omega), Option.some.injEq, Sum.inl.injEq, Sum.inr.injEq, Prod.mk.injEq, and_assoc, exists_eq_left', exists_eq_left, exists_and_left, exists_and_right, exists_eq', exists_eq, forall_eq, forall_eq', true_and, and_true, exists_const, Hm_1, gF_ch_8 _ _ h12, hc.2.2.1, bit_and _ (show x % 12 < 32 by omega), bt_cls, pf1]
  cases okc t i x <;> simp [bI]
def LT (i : Nat) (mu m : Nat → Nat → Int32) (P : List (Nat × Nat × Nat)) : Prop := (∀ k, ¬ k = 11 + 8 * i → ¬ k = 12 + 8 * i → m k = mu k) ∧ (∀ j, ¬ j = 4 → m (11 + 8 * i) j = mu (11 + 8 * i) j) ∧ m (11 + 8 * i) 4 = nI P.length ∧ ∀ k, k < P.length → m (12 + 8 * i) k = nI (pkN (P.getD k (0, 0, 0)).1 (P.getD k (0, 0, 0)).2.1 (P.getD k (0, 0, 0)).2.2)
theorem LT.cb {t : SG} {i : Nat} {mu m : Nat → Nat → Int32} {P : List (Nat × Nat × Nat)} (h : LT i mu m P) (hw : WF t) (hb : CB t mu) : CB t m :=
  hb.of hw (h.1 0 (by omega) (by omega)) (fun k _ _ => h.1 k (by omega) (by omega)) (fun j hj => ⟨h.1 _ (by omega) (by omega), h.1 _ (by omega) (by omega), h.1 _ (by omega) (by omega)⟩)
theorem LT.add {i : Nat} {mu m : Nat → Nat → Int32} {P : List (Nat × Nat × Nat)} (h : LT i mu m P) (a b c : Nat) : LT i mu (up (up m (12 + 8 * i) P.length (nI (pkN a b c))) (11 + 8 * i) 4 (nI (P.length + 1))) (P ++ [(a, b, c)]) := by
  refine ⟨fun k h1 h2 => by rw [up_k h1, up_k h2]; exact h.1 k h1 h2, fun j hj => by rw [up_j hj, up_k (by omega)]; exact h.2.1 j hj, by rw [up_at, List.length_append]; rfl, fun k hk => ?_⟩
  rw [up_k (by omega)]
  rw [List.length_append, List.length_singleton] at hk
  by_cases e : k = P.length
  · subst e
    have : (P ++ [(a, b, c)]).getD P.length (0, 0, 0) = (a, b, c) := by simp
    rw [this, up_at]
  · have : (P ++ [(a, b, c)]).getD k (0, 0, 0) = P.getD k (0, 0, 0) := by
      simp [List.getD_eq_getElem?_getD, List.getElem?_append_left (show k < P.length by omega)]
    rw [this, up_j e]
    exact h.2.2.2 k (by omega)
theorem VLc_sp (s : SG) (i a b : Nat) : ∀ n m c, VLc s i a b c (n + m) = VLc s i a b c n ++ VLc s i a b (c + n) m := by
  intro n
  induction n with
  | zero => intro m c; rw [Nat.zero_add]; rfl
  | succ n ih =>
    intro m c
    rw [show n + 1 + m = (n + m) + 1 by omega]
    show (_ ++ VLc s i a b (c + 1) (n + m)) = (_ ++ VLc s i a b (c + 1) n) ++ _
    rw [ih, List.append_assoc, show c + 1 + n = c + (n + 1) by omega]
theorem VLb_sp (s : SG) (i a : Nat) : ∀ n m b, VLb s i a b (n + m) = VLb s i a b n ++ VLb s i a (b + n) m := by
  intro n
  induction n with
  | zero => intro m c; rw [Nat.zero_add]; rfl
  | succ n ih =>
    intro m c
    rw [show n + 1 + m = (n + m) + 1 by omega]
    show (_ ++ VLb s i a (c + 1) (n + m)) = (_ ++ VLb s i a (c + 1) n) ++ _
    rw [ih, List.append_assoc, show c + 1 + n = c + (n + 1) by omega]
theorem VLb_no (s : SG) (i a : Nat) : ∀ n b, (∀ x c, b ≤ x → x < b + n → ¬ alone s i a x c = 0) → VLb s i a b n = [] := by
  intro n
  induction n with
  | zero => intro b _; rfl
  | succ n ih =>
    intro b h
    show VLc s i a b _ _ ++ VLb s i a (b + 1) n = []
    rw [ih (b + 1) (fun x c h1 h2 => h x c (by omega) (by omega)), VLc_no s i a b _ _ (fun x _ _ => h b x (Nat.le_refl _) (by omega))]
    rfl
theorem VLc_cut (s : SG) (i a b : Nat) {lo hi B T n : Nat} (hlo : lo ≤ B) (hT : T ≤ hi) (h1 : ∀ c, lo ≤ c → c ≤ hi → (c < B ∨ T < c) → ¬ alone s i a b c = 0) (hn : n = T + 1 - B) : VLc s i a b lo (hi + 1 - lo) = VLc s i a b B n := by
  subst hn
  by_cases e : B ≤ T
  · rw [show hi + 1 - lo = (B - lo) + ((T + 1 - B) + (hi - T)) by omega, VLc_sp, VLc_sp, VLc_no s i a b (B - lo) lo (fun x q1 q2 => h1 x q1 (by omega) (by omega)), VLc_no s i a b (hi - T) _ (fun x q1 q2 => h1 x (by omega) (by omega) (by omega)), List.nil_append, List.append_nil, show lo + (B - lo) = B by omega]
  · rw [show T + 1 - B = 0 by omega, VLc_no s i a b (hi + 1 - lo) lo (fun x q1 q2 => h1 x q1 (by omega) (by omega))]
    rfl
theorem VLb_cut (s : SG) (i a : Nat) {lo hi B T n : Nat} (hlo : lo ≤ B) (hT : T ≤ hi) (h1 : ∀ b c, lo ≤ b → b ≤ hi → (b < B ∨ T < b) → ¬ alone s i a b c = 0) (hn : n = T + 1 - B) : VLb s i a lo (hi + 1 - lo) = VLb s i a B n := by
  subst hn
  by_cases e : B ≤ T
  · rw [show hi + 1 - lo = (B - lo) + ((T + 1 - B) + (hi - T)) by omega, VLb_sp, VLb_sp, VLb_no s i a (B - lo) lo (fun x c q1 q2 => h1 x c q1 (by omega) (by omega)), VLb_no s i a (hi - T) _ (fun x c q1 q2 => h1 x c (by omega) (by omega) (by omega)), List.nil_append, List.append_nil, show lo + (B - lo) = B by omega]
  · rw [show T + 1 - B = 0 by omega, VLb_no s i a (hi + 1 - lo) lo (fun x c q1 q2 => h1 x c q1 (by omega) (by omega))]
    rfl
theorem okc_al {s : SG} {i a b c : Nat} (h : okc s i a = false ∨ okc s i b = false ∨ okc s i c = false) : ¬ alone s i a b c = 0 := by
  intro e
  have := ((alone_0 s i a b c).mp e).2.1
  simp only [Bool.and_eq_true] at this
  rcases h with h | h | h
  · rw [h] at this; simp at this
  · rw [h] at this; simp at this
  · rw [h] at this; simp at this
set_option maxHeartbeats 1000000 in
theorem lb40 {Post : MH → Prop} {t : SG} {mu : Nat → Nat → Int32} {l : Nat → Int64} (hb : CB t mu) (hw : WF t) {i : Nat} (hi : i < sn t) {a b T : Nat} (ha : a ≤ 127) (hB : b ≤ 127) (hT : T ≤ 127) : ∀ (n c : Nat) (m : Nat → Nat → Int32) (P : List (Nat × Nat × Nat)), c ≤ 128 → n = T + 1 - c → LT i mu m P → (P ++ VLc t i a b c n).length ≤ 112 → (∀ m2, LT i mu m2 (P ++ VLc t i a b c n) → Post (Hm m2 l)) → wn_Co_listBelow_40 Post (n + 1) (11 + 8 * i) (8 + 8 * i) 3 (nI a) (nI b) (nI T) (nI c) (Hm m l) := by
  have h12 : i < 12 := by have := hw.n; omega
  intro n
  induction n with
  | zero =>
    intro c m P hc hn hL hl hp
    refine ⟨fun _ => ?_, fun e => absurd ((nI_ltI (by omega) (by omega)).mpr (by omega)) e⟩
    exact hp m (by simpa [VLc] using hL)
  | succ n ih =>
    intro c m P hc hn hL hl hp
    have hbm := hL.cb hw hb
    show wb_Co_listBelow_40 _ _ _ _ _ _ _ _ _ _
    unfold wb_Co_listBelow_40 wp_Co_listBelow_80 wp_Co_listBelow_81 wp_Co_listBelow_118
    simp only [nI_ltI (show T < 2 ^ 31 by omega) (show c < 2 ^ 31 by omega), sp_Br_pack _ ha hB (show c ≤ 127 by omega), gC_ch _ _ h12, true_and, sp_Ch_takes _ h12 (hbm.2 i hi).2.1 (show c ≤ 127 by omega), gC_Ru, bI_0, nI_1]
    have no : ¬ alone t i a b c = 0 → wn_Co_listBelow_40 Post (n + 1) (11 + 8 * i) (8 + 8 * i) 3 (nI a) (nI b) (nI T) (nI (c + 1)) (Hm m l) := by
      intro e
      unfold VLc at hl hp
      rw [if_neg e, List.nil_append] at hl hp
      exact ih (c + 1) m P (by omega) (by omega) hL hl hp
    refine ⟨fun e => absurd e (by omega), fun _ => ⟨fun e => ⟨fun _ => no (okc_al (Or.inr (Or.inr e))), fun q => absurd trivial q⟩, fun _ => ?_⟩⟩
    have px : Px (xv t i (a, b, c)) := by
      intro v hv
      rcases (show v = 0 ∨ v = 1 ∨ v = 2 by omega) with rfl | rfl | rfl
      · exact ha
      · exact hB
      · show c ≤ 127; omega
    rw [show pkN a b c = pkv (xv t i (a, b, c)) from rfl]
    refine sp_Ru_ofVoicing hbm hw hi px ?_
    have hal := alone_le t i a b c
    rw [show alone t i (xv t i (a, b, c) 0) (xv t i (a, b, c) 1) (xv t i (a, b, c) 2) = alone t i a b c from rfl, n_eq0 (by omega), show pkv (xv t i (a, b, c)) = pkN a b c from rfl]
    refine ⟨fun e => ⟨fun _ => no e, fun q => absurd trivial q⟩, fun e => ⟨fun q => absurd q (by decide), fun _ => ?_⟩⟩
    unfold VLc at hl hp
    rw [if_pos e] at hl hp
    have hP : P.length < 112 := by simp only [List.length_append, List.length_cons] at hl; omega
    have k1 : ∀ (X : Nat → Nat → Int32) (q : Nat) (v : Int32), up X (12 + 8 * i) q v (11 + 8 * i) 4 = X (11 + 8 * i) 4 := fun X q v => by rw [up_k (by omega)]
    simp only [Option.some.injEq, Sum.inl.injEq, Sum.inr.injEq, Prod.mk.injEq, and_assoc, exists_eq_left', exists_eq_left, exists_and_left, exists_and_right, exists_eq', exists_eq, forall_eq, forall_eq', true_and, and_true, exists_const, Hm_1, gF_co_4 _ _ h12, fs_co_4 _ _ h12, gF_co_0 _ _ h12, gA_vo _ _ h12, ms_vo _ _ h12, k1, hL.2.2.1, show (112 : Int32) = nI 112 from rfl, nI_leI (show 112 < 2 ^ 31 by decide) (show P.length < 2 ^ 31 by omega), vp_in_nI hP (show 112 < 2 ^ 31 by decide), nI_clamp (show P.length < 2 ^ 31 by omega), nI_1]
    refine ⟨fun q => absurd q (by omega), fun _ => ?_⟩
    exact ih (c + 1) _ (P ++ [(a, b, c)]) (by omega) (by omega) (hL.add a b c) (by simpa using hl) (fun m3 h3 => hp m3 (by simpa using h3))
theorem mx12 {a b : Nat} (ha : a ≤ 127) (hb : b ≤ 127) : (if nI a - 12 < nI b then nI b else nI a - 12) = nI (if a < b + 12 then b else a - 12) := by
  have e : nI a - 12 = iI ((a : Int) - 12) := by rw [iI_n, show (12 : Int32) = iI 12 from rfl, iI_sub]
  have c : iI ((a : Int) - 12) < iI (b : Int) ↔ (a : Int) - 12 < b := iI_lt (by omega) (by omega) (by omega) (by omega)
  rw [e, iI_n b]
  by_cases q : a < b + 12
  · rw [if_pos (c.mpr (by omega)), if_pos q, iI_n]
  · rw [if_neg (fun z => by have := c.mp z; omega), if_neg q, iI_n]; congr 1; omega
theorem mx_nI {a b : Nat} (ha : a < 2 ^ 31) (hb : b < 2 ^ 31) (c d : Nat) : (if nI a < nI b then nI c else nI d) = nI (if a < b then c else d) := by
  by_cases q : a < b
  · rw [if_pos ((nI_ltI ha hb).mpr q), if_pos q]
  · rw [if_neg (fun z => q ((nI_ltI ha hb).mp z)), if_neg q]
set_option maxHeartbeats 1000000 in
theorem sp_Co_listBelow {Post : MH → Prop} {t : SG} {mu : Nat → Nat → Int32} {l : Nat → Int64} (hb : CB t mu) (hw : WF t) {i : Nat} (hi : i < sn t) {a b : Nat} (ha : a ≤ 127) (hB : b ≤ 127) {m : Nat → Nat → Int32} {P : List (Nat × Nat × Nat)} (hL : LT i mu m P) (hl : (P ++ VLc t i a b (slo t 2) (shi t 2 + 1 - slo t 2)).length ≤ 112) (hp : ∀ m2, LT i mu m2 (P ++ VLc t i a b (slo t 2) (shi t 2 + 1 - slo t 2)) → Post (Hm m2 l)) : wp_Co_listBelow Post (11 + 8 * i) (8 + 8 * i) 3 (nI a) (nI b) (Hm m l) := by
  have h12 : i < 12 := by have := hw.n; omega
  have hbm := hL.cb hw hb
  have hr := hw.2.2.2.2.2.1 2 (by decide)
  have hbn := bN_rg hw hi
  have g := hbm.1.2.2.2 2 (by decide)
  unfold wp_Co_listBelow
  simp only [Option.some.injEq, Sum.inl.injEq, Sum.inr.injEq, Prod.mk.injEq, and_assoc, exists_eq_left', exists_eq_left, exists_and_left, exists_and_right, exists_eq', exists_eq, forall_eq, forall_eq', true_and, and_true, exists_const, Hm_1, gF_ch_1 _ _ h12, gF_Ru_0, gF_Ru_1, gA_lo, gA_hi, show vp_in 2 3 from (by unfold vp_in; decide), show ((2 : Int32)).toNatClampNeg = 2 from rfl, (hbm.2 i hi).1.2.1, g.1, g.2.1, mx12 hB (show slo t 2 ≤ 127 by omega)]
  generalize hQ : (if b < slo t 2 + 12 then slo t 2 else b - 12) = Q
  have hQ2 : Q ≤ 127 ∧ slo t 2 ≤ Q ∧ (Q = slo t 2 ∨ Q = b - 12) ∧ b ≤ Q + 12 := by rw [← hQ]; split <;> omega
  have e1 : (if nI (bN t i) < nI Q then nI Q else nI (bN t i)) = nI (if bN t i < Q then Q else bN t i) := mx_nI (by omega) (by omega) _ _
  have e2 : (if nI (shi t 2) < nI b then nI (shi t 2) else nI b) = nI (if shi t 2 < b then shi t 2 else b) := mx_nI (by omega) (by omega) _ _
  rw [e1, e2]
  generalize hC : (if bN t i < Q then Q else bN t i) = C
  generalize hT : (if shi t 2 < b then shi t 2 else b) = T
  have hC2 : C ≤ 127 ∧ slo t 2 ≤ C ∧ (C = bN t i ∨ C = Q) ∧ bN t i ≤ C ∧ Q ≤ C := by rw [← hC]; split <;> omega
  have hT2 : T ≤ 127 ∧ T ≤ shi t 2 ∧ (T = shi t 2 ∨ T = b) := by rw [← hT]; split <;> omega
  have cut : VLc t i a b (slo t 2) (shi t 2 + 1 - slo t 2) = VLc t i a b C (T + 1 - C) := by
    refine VLc_cut t i a b hC2.2.1 hT2.2.1 (fun c q1 q2 q3 e => ?_) rfl
    have A := (alone_0 t i a b c).mp e
    have A4 := A.2.2.2.1
    have A5 := A.2.2.2.2.1
    omega
  rw [cut] at hl hp
  exact ⟨_, lb40 hb hw hi ha hB hT2.1 (T + 1 - C) C m P (by omega) rfl hL hl hp⟩
set_option maxHeartbeats 1000000 in
theorem li60 {K12 : Nat → Nat → Nat → Int32 → MH → Prop} {Post : MH → Prop} {t : SG} {mu : Nat → Nat → Int32} {l : Nat → Int64} (hb : CB t mu) (hw : WF t) {i : Nat} (hi : i < sn t) {a T : Nat} (ha : a ≤ 127) (hT : T ≤ 127) : ∀ (n b : Nat) (m : Nat → Nat → Int32) (P : List (Nat × Nat × Nat)), b ≤ 128 → n = T + 1 - b → LT i mu m P → (P ++ VLb t i a b n).length ≤ 112 → (∀ m2, LT i mu m2 (P ++ VLb t i a b n) → K12 (11 + 8 * i) (8 + 8 * i) 3 (nI (a + 1)) (Hm m2 l)) → wn_Co_list_60 K12 Post (n + 1) (11 + 8 * i) (8 + 8 * i) 3 (nI a) (nI T) (nI b) (Hm m l) := by
  have h12 : i < 12 := by have := hw.n; omega
  intro n
  induction n with
  | zero =>
    intro b m P hc hn hL hl hp
    refine ⟨fun _ => ?_, fun e => absurd ((nI_ltI (by omega) (by omega)).mpr (by omega)) e⟩
    have := hp m (by simpa [VLb] using hL)
    rw [← nI_1] at this
    exact this
  | succ n ih =>
    intro b m P hc hn hL hl hp
    have hbm := hL.cb hw hb
    show wb_Co_list_60 _ _ _ _ _ _ _ _ _ _
    unfold wb_Co_list_60 wp_Co_list_85
    simp only [nI_ltI (show T < 2 ^ 31 by omega) (show b < 2 ^ 31 by omega), gC_ch _ _ h12, gC_co _ _ h12, true_and, sp_Ch_takes _ h12 (hbm.2 i hi).2.1 (show b ≤ 127 by omega), bI_0, nI_1]
    unfold VLb at hl hp
    refine ⟨fun e => absurd e (by omega), fun _ => ⟨fun e => ?_, fun _ => ?_⟩⟩
    · rw [VLc_no t i a b _ _ (fun x _ _ => okc_al (Or.inr (Or.inl e))), List.nil_append] at hl hp
      exact ih (b + 1) m P (by omega) (by omega) hL hl hp
    · rw [← List.append_assoc] at hl hp
      refine sp_Co_listBelow hb hw hi ha (by omega) hL (by rw [List.length_append] at hl; omega) (fun m2 h2 => ?_)
      exact ih (b + 1) m2 _ (by omega) (by omega) h2 hl hp
set_option maxHeartbeats 1000000 in
theorem li12 {Post : MH → Prop} {t : SG} {mu : Nat → Nat → Int32} {l : Nat → Int64} (hb : CB t mu) (hw : WF t) {i : Nat} (hi : i < sn t) : ∀ (n a : Nat) (m : Nat → Nat → Int32) (P : List (Nat × Nat × Nat)), a + n = shi t 0 + 1 → LT i mu m P → (P ++ VLa t i a n).length ≤ 112 → (∀ m2, LT i mu m2 (P ++ VLa t i a n) → Post (Hm (up m2 (11 + 8 * i) 5 1) l)) → wn_Co_list_12 Post (n + 1) (11 + 8 * i) (8 + 8 * i) 3 (nI a) (Hm m l) := by
  have h12 : i < 12 := by have := hw.n; omega
  have hr := hw.2.2.2.2.2.1 0 (by decide)
  have hr1 := hw.2.2.2.2.2.1 1 (by decide)
  intro n
  induction n with
  | zero =>
    intro a m P hc hL hl hp
    have hbm := hL.cb hw hb
    show wb_Co_list_12 _ _ _ _ _ _ _
    unfold wb_Co_list_12
    simp only [Option.some.injEq, Sum.inl.injEq, Sum.inr.injEq, Prod.mk.injEq, and_assoc, exists_eq_left', exists_eq_left, exists_and_left, exists_and_right, exists_eq', exists_eq, forall_eq, forall_eq', true_and, and_true, exists_const, Hm_1, gF_Ru_1, gA_hi, show vp_in 0 3 from (by unfold vp_in; decide), show ((0 : Int32)).toNatClampNeg = 0 from rfl, (hbm.1.2.2.2 0 (by decide)).2.1, nI_ltI (show shi t 0 < 2 ^ 31 by omega) (show a < 2 ^ 31 by omega), gF_co_5 _ _ h12, fs_co_5 _ _ h12]
    refine ⟨fun _ => hp m (by simpa [VLa] using hL), fun e => absurd (by omega) e⟩
  | succ n ih =>
    intro a m P hc hL hl hp
    have hbm := hL.cb hw hb
    have g1 := hbm.1.2.2.2 1 (by decide)
    show wb_Co_list_12 _ _ _ _ _ _ _
    unfold wb_Co_list_12 wp_Co_list_91
    simp only [Option.some.injEq, Sum.inl.injEq, Sum.inr.injEq, Prod.mk.injEq, and_assoc, exists_eq_left', exists_eq_left, exists_and_left, exists_and_right, exists_eq', exists_eq, forall_eq, forall_eq', true_and, and_true, exists_const, Hm_1, gF_Ru_0, gF_Ru_1, gA_lo, gA_hi, show vp_in 0 3 from (by unfold vp_in; decide), show vp_in 1 3 from (by unfold vp_in; decide), show ((0 : Int32)).toNatClampNeg = 0 from rfl, show ((1 : Int32)).toNatClampNeg = 1 from rfl, (hbm.1.2.2.2 0 (by decide)).2.1, g1.1, g1.2.1, nI_ltI (show shi t 0 < 2 ^ 31 by omega) (show a < 2 ^ 31 by omega), gC_ch _ _ h12, sp_Ch_takes _ h12 (hbm.2 i hi).2.1 (show a ≤ 127 by omega), bI_0, nI_1, mx12 (show a ≤ 127 by omega) (show slo t 1 ≤ 127 by omega)]
    unfold VLa at hl hp
    refine ⟨fun e => absurd e (by omega), fun _ => ⟨fun _ => ?_, fun e => ?_⟩⟩
    · have e2 : (if nI (shi t 1) < nI a then nI (shi t 1) else nI a) = nI (if shi t 1 < a then shi t 1 else a) := mx_nI (by omega) (by omega) _ _
      rw [e2]
      generalize hC : (if a < slo t 1 + 12 then slo t 1 else a - 12) = C
      generalize hT : (if shi t 1 < a then shi t 1 else a) = T
      have hC2 : C ≤ 127 ∧ slo t 1 ≤ C ∧ (C = slo t 1 ∨ C = a - 12) ∧ a ≤ C + 12 := by rw [← hC]; split <;> omega
      have hT2 : T ≤ 127 ∧ T ≤ shi t 1 ∧ (T = shi t 1 ∨ T = a) := by rw [← hT]; split <;> omega
      have cut : VLb t i a (slo t 1) (shi t 1 + 1 - slo t 1) = VLb t i a C (T + 1 - C) := by
        refine VLb_cut t i a hC2.2.1 hT2.2.1 (fun b c q1 q2 q3 e => ?_) rfl
        have A := (alone_0 t i a b c).mp e
        have A4 := A.2.2.2.1
        have A5 := A.2.2.2.2.1
        omega
      rw [cut, ← List.append_assoc] at hl hp
      refine ⟨_, li60 hb hw hi (by omega) hT2.1 (T + 1 - C) C m P (by omega) rfl hL (by rw [List.length_append] at hl; omega) (fun m2 h2 => ?_)⟩
      exact ih (a + 1) m2 _ (by omega) h2 hl hp
    · rw [VLb_no t i a _ _ (fun x c _ _ => okc_al (Or.inl e)), List.nil_append] at hl hp
      exact ih (a + 1) m P (by omega) hL hl hp
def Lst (t : SG) (i : Nat) (m : Nat → Nat → Int32) : Prop := m (11 + 8 * i) 4 = nI (sz t i) ∧ ∀ k, k < sz t i → m (12 + 8 * i) k = nI (pkv (vv t i k))
def Fc (i : Nat) (mu m : Nat → Nat → Int32) : Prop := (∀ k, ¬ k = 11 + 8 * i → ¬ k = 12 + 8 * i → m k = mu k)
theorem sp_Co_list {Post : MH → Prop} {t : SG} {mu : Nat → Nat → Int32} {l : Nat → Int64} (hb : CB t mu) (hw : WF t) {i : Nat} (hi : i < sn t) (hp : ∀ m2, Fc i mu m2 → Lst t i m2 → m2 (11 + 8 * i) 5 = 1 → Post (Hm m2 l)) : wp_Co_list Post (11 + 8 * i) (8 + 8 * i) 3 (Hm mu l) := by
  have h12 : i < 12 := by have := hw.n; omega
  have hr := hw.2.2.2.2.2.1 0 (by decide)
  have hL : LT i mu (up mu (11 + 8 * i) 4 0) [] := ⟨fun k h1 _ => up_k h1, fun j hj => up_j hj, up_at _ _ _ _, fun k hk => absurd hk (Nat.not_lt_zero _)⟩
  unfold wp_Co_list
  simp only [Option.some.injEq, Sum.inl.injEq, Sum.inr.injEq, Prod.mk.injEq, and_assoc, exists_eq_left', exists_eq_left, exists_and_left, exists_and_right, exists_eq', exists_eq, forall_eq, forall_eq', true_and, and_true, exists_const, Hm_1, gF_co_4 _ _ h12, fs_co_4 _ _ h12, gF_Ru_0, gA_lo, show vp_in 0 3 from (by unfold vp_in; decide), show ((0 : Int32)).toNatClampNeg = 0 from rfl, ((hL.cb hw hb).1.2.2.2 0 (by decide)).1]
  refine ⟨_, li12 hb hw hi (shi t 0 + 1 - slo t 0) (slo t 0) _ [] (by omega) hL (by rw [List.nil_append]; exact sz_112 hw hi) (fun m2 h2 => ?_)⟩
  rw [List.nil_append] at h2
  refine hp _ (fun k q1 q2 => by rw [up_k q1]; exact h2.1 k q1 q2) ⟨by rw [up_j (by decide)]; exact h2.2.2.1, fun k hk => by rw [up_k (by omega)]; exact h2.2.2.2 k hk⟩ (up_at _ _ _ _)
