def set4 (mu : Nat → Nat → Int32) (k : Nat) (a b c d : Int32) : Nat → Nat → Int32 := up (up (up (up mu k 0 a) k 1 b) k 2 c) k 3 d
theorem set4_k {mu : Nat → Nat → Int32} {k q : Nat} {a b c d : Int32} (h : ¬ q = k) : set4 mu k a b c d q = mu q := by
  unfold set4; rw [up_k h, up_k h, up_k h, up_k h]
theorem set4_at (mu : Nat → Nat → Int32) (k : Nat) (a b c d : Int32) : set4 mu k a b c d k 0 = a ∧ set4 mu k a b c d k 1 = b ∧ set4 mu k a b c d k 2 = c ∧ set4 mu k a b c d k 3 = d := by
  simp [set4, up_ap]
theorem set4_row {mu : Nat → Nat → Int32} {k : Nat} {x : Nat → Nat} (hx : ∀ v, v < 4 → x v ≤ 127) : Row (set4 mu k (nI (x 0)) (nI (x 1)) (nI (x 2)) (nI (x 3))) k x := by
  intro v hv
  refine ⟨?_, hx v hv⟩
  have h := set4_at mu k (nI (x 0)) (nI (x 1)) (nI (x 2)) (nI (x 3))
  match v, hv with
  | 0, _ => exact h.1
  | 1, _ => exact h.2.1
  | 2, _ => exact h.2.2.1
  | 3, _ => exact h.2.2.2
theorem RB_set4 {s : SG} {mu : Nat → Nat → Int32} (hb : RB s mu) {k : Nat} (hk : k < 113 ∨ 124 ≤ k) (a b c d : Int32) : RB s (set4 mu k a b c d) := RB_up (RB_up (RB_up (RB_up hb hk _ _) hk _ _) hk _ _) hk _ _
def Is4 (k : Nat) : Prop := k = 124 ∨ k = 125 ∨ k = 133
theorem gA_4 {k : Nat} (hk : Is4 k) (mu : Nat → Nat → Int32) (l : Nat → Int64) : gA (Hm mu l) k 0 = some (4, mu k) := by
  rcases hk with rfl | rfl | rfl
  · exact gA_Rno mu l
  · exact gA_Rbe mu l
  · exact gA_Rch mu l
theorem ms_4 {k : Nat} (hk : Is4 k) (mu : Nat → Nat → Int32) (l : Nat → Int64) (j : Nat) (v : Int32) : mset (Hm mu l) k (.inr (0, 4, .inl (upd (mu k) j v))) = Hm (up mu k j v) l := by
  rcases hk with rfl | rfl | rfl
  · exact ms_Rno mu l j v
  · exact ms_Rbe mu l j v
  · exact ms_Rch mu l j v
theorem Is4.ge {k : Nat} (hk : Is4 k) : 124 ≤ k ∧ ¬ k = 122 ∧ ¬ k = 129 := by rcases hk with rfl | rfl | rfl <;> decide
theorem sp_Rm_takeSung {Post : MH → Prop} {s : SG} {mu : Nat → Nat → Int32} (hb : RB s mu) (hw : WF s) {i : Nat} (hi : i < sn s) {a b c : Nat} (hs : ssg s i = some (a, b, c)) {k : Nat} (hk : Is4 k) {l : Nat → Int64} (hp : Post (Hm (set4 mu k (nI a) (nI b) (nI c) (nI (bN s i))) l)) : wp_Rm_takeSung Post 113 (nI i) k (Hm mu l) := by
  have h12 := hw.n
  have eh := (hb.2.2.2.2.2.2.2 i hi).2 a b c hs
  have hk2 := hk.ge
  have step : ∀ (K : Nat → Int32 → Nat → Int32 → MH → Prop) (m : Nat → Nat → Int32) (v : Nat), v < 3 → K 113 (nI i) k (nI (v + 1)) (Hm (up m k v (m 122 (3 * i + v))) l) → wb_Rm_takeSung_2 K Post 113 (nI i) k (nI v) (Hm m l) := by
    intro K m v hv hK
    unfold wb_Rm_takeSung_2
    refine ⟨fun q => absurd q (nI_ge hv (by decide)), fun _ => ?_⟩
    simp only [Option.some.injEq, Sum.inl.injEq, Sum.inr.injEq, Prod.mk.injEq, and_assoc, exists_eq_left', exists_eq_left, exists_and_left, exists_and_right, exists_eq', exists_eq, forall_eq, forall_eq', true_and, and_true, exists_const, Hm_1, gF_Rm_12, gA_Rha, gA_4 hk, show (3 : Int32) = nI 3 from rfl, pk_mul, nI_add, vp_in_nI (show 3 * i + v < 36 by omega) (show 36 < 2 ^ 31 by omega), vp_in_nI (show v < 4 by omega) (show 4 < 2 ^ 31 by omega), nI_clamp (show 3 * i + v < 2 ^ 31 by omega), nI_clamp (show v < 2 ^ 31 by omega), ms_4 hk, nI_1]
    exact hK
  refine ⟨4, step _ _ 0 (by decide) (step _ _ 1 (by decide) (step _ _ 2 (by decide) ?_))⟩
  refine ⟨fun _ => ⟨gC_Rm _ l, ?_⟩, fun q => absurd (by decide) q⟩
  rw [sp_Rm_bassOf _ (RB_up (RB_up (RB_up hb (by omega) _ _) (by omega) _ _) (by omega) _ _) hw hi l]
  simp only [Option.some.injEq, Sum.inl.injEq, Sum.inr.injEq, Prod.mk.injEq, and_assoc, exists_eq_left', exists_eq_left, exists_and_left, exists_and_right, exists_eq', exists_eq, forall_eq, forall_eq', true_and, and_true, exists_const, Hm_1, gA_4 hk, show vp_in 3 4 from (by unfold vp_in; decide), show ((3 : Int32)).toNatClampNeg = 3 from rfl, ms_4 hk]
  simp only [up_k (show ¬ 122 = k by omega)]
  rw [show 3 * i + 0 = 3 * i from rfl, eh.1, eh.2.1, eh.2.2]
  exact hp
theorem sp_Rm_take {Post : MH → Prop} {s : SG} {mu : Nat → Nat → Int32} (hb : RB s mu) (hw : WF s) {i j : Nat} (hi : i < sn s) (hj : j < 800) {k : Nat} (hk : Is4 k) {l : Nat → Int64} (hp : Post (Hm (set4 mu k (mu 129 (3 * (800 * i + j))) (mu 129 (3 * (800 * i + j) + 1)) (mu 129 (3 * (800 * i + j) + 2)) (nI (bN s i))) l)) : wp_Rm_take Post 113 (nI i) (nI j) k (Hm mu l) := by
  have h12 := hw.n
  have hk2 := hk.ge
  have step : ∀ (K : Nat → Int32 → Int32 → Nat → Int32 → MH → Prop) (m : Nat → Nat → Int32) (v : Nat), v < 3 → K 113 (nI i) (nI j) k (nI (v + 1)) (Hm (up m k v (m 129 (3 * (800 * i + j) + v))) l) → wb_Rm_take_3 K Post 113 (nI i) (nI j) k (nI v) (Hm m l) := by
    intro K m v hv hK
    unfold wb_Rm_take_3
    refine ⟨fun q => absurd q (nI_ge hv (by decide)), fun _ => ?_⟩
    simp only [Option.some.injEq, Sum.inl.injEq, Sum.inr.injEq, Prod.mk.injEq, and_assoc, exists_eq_left', exists_eq_left, exists_and_left, exists_and_right, exists_eq', exists_eq, forall_eq, forall_eq', true_and, and_true, exists_const, Hm_1, gF_Rm_20, gA_Rpi, gA_4 hk, show (3 : Int32) = nI 3 from rfl, show (800 : Int32) = nI 800 from rfl, pk_mul, nI_add, vp_in_nI (show 3 * (800 * i + j) + v < 28800 by omega) (show 28800 < 2 ^ 31 by omega), vp_in_nI (show v < 4 by omega) (show 4 < 2 ^ 31 by omega), nI_clamp (show 3 * (800 * i + j) + v < 2 ^ 31 by omega), nI_clamp (show v < 2 ^ 31 by omega), ms_4 hk, nI_1]
    exact hK
  refine ⟨4, step _ _ 0 (by decide) (step _ _ 1 (by decide) (step _ _ 2 (by decide) ?_))⟩
  refine ⟨fun _ => ⟨gC_Rm _ l, ?_⟩, fun q => absurd (by decide) q⟩
  rw [sp_Rm_bassOf _ (RB_up (RB_up (RB_up hb (by omega) _ _) (by omega) _ _) (by omega) _ _) hw hi l]
  simp only [Option.some.injEq, Sum.inl.injEq, Sum.inr.injEq, Prod.mk.injEq, and_assoc, exists_eq_left', exists_eq_left, exists_and_left, exists_and_right, exists_eq', exists_eq, forall_eq, forall_eq', true_and, and_true, exists_const, Hm_1, gA_4 hk, show vp_in 3 4 from (by unfold vp_in; decide), show ((3 : Int32)).toNatClampNeg = 3 from rfl, ms_4 hk]
  simp only [up_k (show ¬ 129 = k by omega)]
  exact hp
def csH (s : SG) (x : Nat → Nat) : Nat := dis (x 0) (sho s 0) + dis (x 1) (sho s 1) + dis (x 2) (sho s 2)
def csM (x y : Nat → Nat) : Nat := dis (x 0) (y 0) + dis (x 1) (y 1) + dis (x 2) (y 2)
theorem sp_Rm_cost0 {Post : Int32 → MH → Prop} {s : SG} {mu : Nat → Nat → Int32} (hb : RB s mu) (hw : WF s) {x : Nat → Nat} (hx : Row mu 124 x) {l : Nat → Int64} (hp : Post (nI (csH s x)) (Hm mu l)) : wp_Rm_cost Post 113 0 (Hm mu l) := by
  have step : ∀ (K : Nat → Int32 → Int32 → Int32 → MH → Prop) (c v : Nat), v < 3 → K 113 0 (nI (c + dis (x v) (sho s v))) (nI (v + 1)) (Hm mu l) → wb_Rm_cost_4 K Post 113 0 (nI c) (nI v) (Hm mu l) := by
    intro K c v hv hK
    have xv := hx v (by omega)
    have hr := hw.2.2.2.2.2.1 v hv
    have er := hb.2.2.2.2.2.1 v hv
    unfold wb_Rm_cost_4 wp_Rm_cost_35
    refine ⟨fun q => absurd q (nI_ge hv (by decide)), fun _ => ?_⟩
    simp only [Option.some.injEq, Sum.inl.injEq, Sum.inr.injEq, Prod.mk.injEq, and_assoc, exists_eq_left', exists_eq_left, exists_and_left, exists_and_right, exists_eq', exists_eq, forall_eq, forall_eq', true_and, and_true, exists_const, Hm_1, gF_Rm_14, gF_Rm_9, gF_Rm_15, gA_Rno, gA_Rho, gA_Rbe, vp_in_nI (show v < 4 by omega) (show 4 < 2 ^ 31 by omega), vp_in_nI hv (show 3 < 2 ^ 31 by omega), nI_clamp (show v < 2 ^ 31 by omega), xv.1, er.2.2, sp_far2 _ xv.2 hr.2.2.2, nI_add, nI_1]
    exact ⟨fun q => absurd trivial q, fun _ => hK⟩
  refine ⟨4, step _ 0 0 (by decide) (step _ _ 1 (by decide) (step _ _ 2 (by decide) ?_))⟩
  refine ⟨fun _ => ?_, fun q => absurd (by decide) q⟩
  unfold csH at hp
  rw [Nat.zero_add]
  exact hp
theorem sp_Rm_cost {Post : Int32 → MH → Prop} {i : Nat} (h0 : 0 < i) (hi : i < 12) {mu : Nat → Nat → Int32} {x y : Nat → Nat} (hx : Row mu 124 x) (hy : Row mu 125 y) {l : Nat → Int64} (hp : Post (nI (csM x y)) (Hm mu l)) : wp_Rm_cost Post 113 (nI i) (Hm mu l) := by
  have step : ∀ (K : Nat → Int32 → Int32 → Int32 → MH → Prop) (c v : Nat), v < 3 → K 113 (nI i) (nI (c + dis (x v) (y v))) (nI (v + 1)) (Hm mu l) → wb_Rm_cost_4 K Post 113 (nI i) (nI c) (nI v) (Hm mu l) := by
    intro K c v hv hK
    have xv := hx v (by omega)
    have yv := hy v (by omega)
    unfold wb_Rm_cost_4 wp_Rm_cost_35
    refine ⟨fun q => absurd q (nI_ge hv (by decide)), fun _ => ?_⟩
    simp only [Option.some.injEq, Sum.inl.injEq, Sum.inr.injEq, Prod.mk.injEq, and_assoc, exists_eq_left', exists_eq_left, exists_and_left, exists_and_right, exists_eq', exists_eq, forall_eq, forall_eq', true_and, and_true, exists_const, Hm_1, gF_Rm_14, gF_Rm_9, gF_Rm_15, gA_Rno, gA_Rho, gA_Rbe, vp_in_nI (show v < 4 by omega) (show 4 < 2 ^ 31 by omega), nI_clamp (show v < 2 ^ 31 by omega), xv.1, yv.1, sp_far2 _ xv.2 yv.2, nI_add, nI_1]
    exact ⟨fun _ => hK, fun q => absurd q (nI_ne0 h0 (by omega))⟩
  refine ⟨4, step _ 0 0 (by decide) (step _ _ 1 (by decide) (step _ _ 2 (by decide) ?_))⟩
  refine ⟨fun _ => ?_, fun q => absurd (by decide) q⟩
  unfold csM at hp
  rw [Nat.zero_add]
  exact hp
