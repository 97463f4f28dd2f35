def IsM (M : Nat) : Prop := M = 104 ∨ M = 109
theorem IsM.ge {M : Nat} (h : IsM M) : 104 ≤ M ∧ M ≤ 109 := by rcases h with rfl | rfl <;> decide
theorem gC_Mv {M : Nat} (h : IsM M) (mu : Nat → Nat → Int32) (l : Nat → Int64) : gC (Hm mu l) M = some 2 := by
  rcases h with rfl | rfl
  · exact gC_M1 mu l
  · exact gC_M2 mu l
theorem gF_Mv0 {M : Nat} (h : IsM M) (mu : Nat → Nat → Int32) (l : Nat → Int64) : gF (Hm mu l) M 2 0 = some (.inr (some (M + 1))) := by
  rcases h with rfl | rfl
  · exact gF_M1_0 mu l
  · exact gF_M2_0 mu l
theorem gF_Mv1 {M : Nat} (h : IsM M) (mu : Nat → Nat → Int32) (l : Nat → Int64) : gF (Hm mu l) M 2 1 = some (.inr (some (M + 2))) := by
  rcases h with rfl | rfl
  · exact gF_M1_1 mu l
  · exact gF_M2_1 mu l
theorem gF_Mv2 {M : Nat} (h : IsM M) (mu : Nat → Nat → Int32) (l : Nat → Int64) : gF (Hm mu l) M 2 2 = some (.inr (some (M + 3))) := by
  rcases h with rfl | rfl
  · exact gF_M1_2 mu l
  · exact gF_M2_2 mu l
theorem gF_Mv3 {M : Nat} (h : IsM M) (mu : Nat → Nat → Int32) (l : Nat → Int64) : gF (Hm mu l) M 2 3 = some (.inl (mu M 3)) := by
  rcases h with rfl | rfl
  · exact gF_M1_3 mu l
  · exact gF_M2_3 mu l
theorem gF_Mv4 {M : Nat} (h : IsM M) (mu : Nat → Nat → Int32) (l : Nat → Int64) : gF (Hm mu l) M 2 4 = some (.inl (mu M 4)) := by
  rcases h with rfl | rfl
  · exact gF_M1_4 mu l
  · exact gF_M2_4 mu l
theorem gF_Mv5 {M : Nat} (h : IsM M) (mu : Nat → Nat → Int32) (l : Nat → Int64) : gF (Hm mu l) M 2 5 = some (.inl (mu M 5)) := by
  rcases h with rfl | rfl
  · exact gF_M1_5 mu l
  · exact gF_M2_5 mu l
theorem fs_Mv3 {M : Nat} (h : IsM M) (mu : Nat → Nat → Int32) (l : Nat → Int64) (v : Int32) : fset (Hm mu l) M 3 (.inl v) = Hm (up mu M 3 v) l := by
  rcases h with rfl | rfl
  · exact fs_M1_3 mu l v
  · exact fs_M2_3 mu l v
theorem fs_Mv4 {M : Nat} (h : IsM M) (mu : Nat → Nat → Int32) (l : Nat → Int64) (v : Int32) : fset (Hm mu l) M 4 (.inl v) = Hm (up mu M 4 v) l := by
  rcases h with rfl | rfl
  · exact fs_M1_4 mu l v
  · exact fs_M2_4 mu l v
theorem fs_Mv5 {M : Nat} (h : IsM M) (mu : Nat → Nat → Int32) (l : Nat → Int64) (v : Int32) : fset (Hm mu l) M 5 (.inl v) = Hm (up mu M 5 v) l := by
  rcases h with rfl | rfl
  · exact fs_M1_5 mu l v
  · exact fs_M2_5 mu l v
theorem gA_Mv {M q : Nat} (h : IsM M) (hq : 1 ≤ q ∧ q ≤ 3) (mu : Nat → Nat → Int32) (l : Nat → Int64) : gA (Hm mu l) (M + q) 0 = some (4, mu (M + q)) := by
  rcases (show q = 1 ∨ q = 2 ∨ q = 3 by omega) with rfl | rfl | rfl <;> rcases h with rfl | rfl
  · exact gA_M10 mu l
  · exact gA_M20 mu l
  · exact gA_M11 mu l
  · exact gA_M21 mu l
  · exact gA_M12 mu l
  · exact gA_M22 mu l
theorem ms_Mv {M q : Nat} (h : IsM M) (hq : 1 ≤ q ∧ q ≤ 3) (mu : Nat → Nat → Int32) (l : Nat → Int64) (j : Nat) (v : Int32) : mset (Hm mu l) (M + q) (.inr (0, 4, .inl (upd (mu (M + q)) j v))) = Hm (up mu (M + q) j v) l := by
  rcases (show q = 1 ∨ q = 2 ∨ q = 3 by omega) with rfl | rfl | rfl <;> rcases h with rfl | rfl
  · exact ms_M10 mu l j v
  · exact ms_M20 mu l j v
  · exact ms_M11 mu l j v
  · exact ms_M21 mu l j v
  · exact ms_M12 mu l j v
  · exact ms_M22 mu l j v
def MF (M : Nat) (mu m : Nat → Nat → Int32) : Prop := ∀ k, ¬ (M ≤ k ∧ k ≤ M + 3) → m k = mu k
theorem MF.tr {M : Nat} {a b c : Nat → Nat → Int32} (h : MF M a b) (g : MF M b c) : MF M a c := fun k hk => (g k hk).trans (h k hk)
theorem MF.up {M : Nat} {mu m : Nat → Nat → Int32} (h : MF M mu m) {k : Nat} (hk : M ≤ k ∧ k ≤ M + 3) (j : Nat) (v : Int32) : MF M mu (up m k j v) := fun q hq => by rw [up_k (by omega)]; exact h q hq
def Lv (t : SG) (j : Nat) (y : Nat → Nat) (M : Nat) (m : Nat → Nat → Int32) : Prop := Row m (M + 1) y ∧ m M 3 = smI t j 8 ∧ m M 4 = fmI t j 8
def Ar (t : SG) (i : Nat) (x y : Nat → Nat) (M : Nat) (m : Nat → Nat → Int32) : Prop := Row m (M + 2) x ∧ (∀ v, v < 4 → m (M + 3) v = nI (x v) - nI (y v)) ∧ m M 5 = smI t i 8
def Vx (t : SG) (i : Nat) (x : Nat → Nat) : Prop := Px x ∧ x 3 = bN t i
theorem Vx.r {t : SG} {i : Nat} {x : Nat → Nat} (h : Vx t i x) (hw : WF t) (hi : i < sn t) : ∀ v, v < 4 → x v ≤ 127 := by
  have hb := bN_rg hw hi
  intro v hv
  by_cases e : v = 3
  · subst e; rw [h.2]; omega
  · exact h.1 v (by omega)
theorem c4 {P : Nat → Prop} (h0 : P 0) (h1 : P 1) (h2 : P 2) (h3 : P 3) : ∀ v, v < 4 → P v := by
  intro v hv
  match v, hv with
  | 0, _ => exact h0
  | 1, _ => exact h1
  | 2, _ => exact h2
  | 3, _ => exact h3
set_option maxHeartbeats 1000000 in
theorem sp_Mv_leave {Post : MH → Prop} {t : SG} {mu : Nat → Nat → Int32} {M j : Nat} (hM : IsM M) (hw : WF t) (hj : j < sn t) (hc : CC t j mu) {y : Nat → Nat} (hy : Vx t j y) {l : Nat → Int64} (hp : ∀ m2, MF M mu m2 → Lv t j y M m2 → Post (Hm m2 l)) : wp_Mv_leave Post M (8 + 8 * j) (nI (pkv y)) (Hm mu l) := by
  have h12 : j < 12 := by have := hw.n; omega
  have hM2 := hM.ge
  have step : ∀ (K : Nat → Nat → Int32 → Int32 → MH → Prop) (m : Nat → Nat → Int32) (v : Nat), v < 3 → K M (8 + 8 * j) (nI (pkv y)) (nI (v + 1)) (Hm (up m (M + 1) v (nI (y v))) l) → wb_Mv_leave_2 K Post M (8 + 8 * j) (nI (pkv y)) (nI v) (Hm m l) := by
    intro K m v hv hK
    unfold wb_Mv_leave_2
    refine ⟨fun e => absurd e (nI_ge hv (by decide)), fun _ => ?_⟩
    simp only [Option.some.injEq, Sum.inl.injEq, Sum.inr.injEq, Prod.mk.injEq, and_assoc, exists_eq_left', exists_eq_left, exists_and_left, exists_and_right, exists_eq', exists_eq, forall_eq, forall_eq', true_and, and_true, exists_const, Hm_1, gF_Mv0 hM, sp_Br_pitchOf _ hy.1 hv, gA_Mv hM (show 1 ≤ 1 ∧ 1 ≤ 3 by decide), ms_Mv hM (show 1 ≤ 1 ∧ 1 ≤ 3 by decide), vp_in_nI (show v < 4 by omega) (show 4 < 2 ^ 31 by decide), nI_clamp (show v < 2 ^ 31 by omega), nI_1]
    exact hK
  refine ⟨4, step _ _ 0 (by decide) (step _ _ 1 (by decide) (step _ _ 2 (by decide) ?_))⟩
  have mf : MF M mu (up (up (up mu (M + 1) 0 (nI (y 0))) (M + 1) 1 (nI (y 1))) (M + 1) 2 (nI (y 2))) := (((show MF M mu mu from fun _ _ => rfl).up (by omega) _ _).up (by omega) _ _).up (by omega) _ _
  have e1 : (up (up (up mu (M + 1) 0 (nI (y 0))) (M + 1) 1 (nI (y 1))) (M + 1) 2 (nI (y 2))) (8 + 8 * j) = mu (8 + 8 * j) := mf _ (by omega)
  refine ⟨fun _ => ?_, fun e => absurd (by decide) e⟩
  have k1 : ∀ (X : Nat → Nat → Int32) (q : Nat) (v : Int32), up X (M + 1) q v (8 + 8 * j) = X (8 + 8 * j) := fun X q v => up_k (by omega)
  have k2 : ∀ (X : Nat → Nat → Int32) (q : Nat) (v : Int32), up X M q v (8 + 8 * j) = X (8 + 8 * j) := fun X q v => up_k (by omega)
  simp only [Option.some.injEq, Sum.inl.injEq, Sum.inr.injEq, Prod.mk.injEq, and_assoc, exists_eq_left', exists_eq_left, exists_and_left, exists_and_right, exists_eq', exists_eq, forall_eq, forall_eq', true_and, and_true, exists_const, Hm_1, gF_Mv0 hM, gF_ch_1 _ _ h12, gF_ch_9 _ _ h12, gF_ch_10 _ _ h12, gA_Mv hM (show 1 ≤ 1 ∧ 1 ≤ 3 by decide), ms_Mv hM (show 1 ≤ 1 ∧ 1 ≤ 3 by decide), show vp_in 3 4 from (by unfold vp_in; decide), show ((3 : Int32)).toNatClampNeg = 3 from rfl, gF_Mv3 hM, fs_Mv3 hM, gF_Mv4 hM, fs_Mv4 hM, k1, k2, hc.1.2.1, hc.2.1.2.2.2.1, hc.2.1.2.2.2.2]
  refine hp _ (((mf.up (by omega) _ _).up (by omega) _ _).up (by omega) _ _) ⟨?_, ?_, ?_⟩
  · intro v hv
    refine ⟨?_, hy.r hw hj v hv⟩
    rw [up_k (by omega), up_k (by omega)]
    revert v
    refine c4 ?_ ?_ ?_ ?_
    · rw [up_j (by decide), up_j (by decide), up_j (by decide), up_at]
    · rw [up_j (by decide), up_j (by decide), up_at]
    · rw [up_j (by decide), up_at]
    · rw [up_at, hy.2]
  · rw [up_j (by decide), up_at]
  · rw [up_at]
set_option maxHeartbeats 2000000 in
theorem sp_Mv_arrive {Post : MH → Prop} {t : SG} {mu : Nat → Nat → Int32} {M i j : Nat} (hM : IsM M) (hw : WF t) (hi : i < sn t) (hc : CC t i mu) {x y : Nat → Nat} (hx : Vx t i x) (hl : Lv t j y M mu) {l : Nat → Int64} (hp : ∀ m2, MF M mu m2 → Lv t j y M m2 → Ar t i x y M m2 → Post (Hm m2 l)) : wp_Mv_arrive Post M (8 + 8 * i) (nI (pkv x)) (Hm mu l) := by
  have h12 : i < 12 := by have := hw.n; omega
  have hM2 := hM.ge
  have step : ∀ (K : Nat → Nat → Int32 → Int32 → MH → Prop) (m : Nat → Nat → Int32) (v : Nat), v < 3 → K M (8 + 8 * i) (nI (pkv x)) (nI (v + 1)) (Hm (up (up m (M + 2) v (nI (x v))) (M + 3) v (nI (x v) - m (M + 1) v)) l) → wb_Mv_arrive_2 K Post M (8 + 8 * i) (nI (pkv x)) (nI v) (Hm m l) := by
    intro K m v hv hK
    unfold wb_Mv_arrive_2
    refine ⟨fun e => absurd e (nI_ge hv (by decide)), fun _ => ?_⟩
    have k1 : ∀ (X : Nat → Nat → Int32) (q : Nat) (v : Int32), up X (M + 2) q v (M + 1) v.toNatClampNeg = X (M + 1) v.toNatClampNeg := fun X q v => by rw [up_k (by omega)]
    have k2 : up m (M + 2) v (nI (x v)) (M + 1) v = m (M + 1) v := by rw [up_k (by omega)]
    simp only [Option.some.injEq, Sum.inl.injEq, Sum.inr.injEq, Prod.mk.injEq, and_assoc, exists_eq_left', exists_eq_left, exists_and_left, exists_and_right, exists_eq', exists_eq, forall_eq, forall_eq', true_and, and_true, exists_const, Hm_1, gF_Mv0 hM, gF_Mv1 hM, gF_Mv2 hM, sp_Br_pitchOf _ hx.1 hv, gA_Mv hM (show 1 ≤ 2 ∧ 2 ≤ 3 by decide), ms_Mv hM (show 1 ≤ 2 ∧ 2 ≤ 3 by decide), gA_Mv hM (show 1 ≤ 1 ∧ 1 ≤ 3 by decide), gA_Mv hM (show 1 ≤ 3 ∧ 3 ≤ 3 by decide), ms_Mv hM (show 1 ≤ 3 ∧ 3 ≤ 3 by decide), vp_in_nI (show v < 4 by omega) (show 4 < 2 ^ 31 by decide), nI_clamp (show v < 2 ^ 31 by omega), nI_1, up_at, k2]
    exact hK
  refine ⟨4, step _ _ 0 (by decide) (step _ _ 1 (by decide) (step _ _ 2 (by decide) ?_))⟩
  have k1 : ∀ (X : Nat → Nat → Int32) (q : Nat) (v : Int32), up X (M + 2) q v (M + 1) = X (M + 1) := fun X q v => up_k (by omega)
  have k2 : ∀ (X : Nat → Nat → Int32) (q : Nat) (v : Int32), up X (M + 3) q v (M + 1) = X (M + 1) := fun X q v => up_k (by omega)
  simp only [k1, k2, (hl.1 0 (by decide)).1, (hl.1 1 (by decide)).1, (hl.1 2 (by decide)).1]
  have mf : MF M mu (up (up (up (up (up (up mu (M + 2) 0 (nI (x 0))) (M + 3) 0 (nI (x 0) - nI (y 0))) (M + 2) 1 (nI (x 1))) (M + 3) 1 (nI (x 1) - nI (y 1))) (M + 2) 2 (nI (x 2))) (M + 3) 2 (nI (x 2) - nI (y 2))) := ((((((show MF M mu mu from fun _ _ => rfl).up (by omega) _ _).up (by omega) _ _).up (by omega) _ _).up (by omega) _ _).up (by omega) _ _).up (by omega) _ _
  have r1 : (up (up (up (up (up (up mu (M + 2) 0 (nI (x 0))) (M + 3) 0 (nI (x 0) - nI (y 0))) (M + 2) 1 (nI (x 1))) (M + 3) 1 (nI (x 1) - nI (y 1))) (M + 2) 2 (nI (x 2))) (M + 3) 2 (nI (x 2) - nI (y 2))) (M + 1) = mu (M + 1) := by simp only [k1, k2]
  have rM : (up (up (up (up (up (up mu (M + 2) 0 (nI (x 0))) (M + 3) 0 (nI (x 0) - nI (y 0))) (M + 2) 1 (nI (x 1))) (M + 3) 1 (nI (x 1) - nI (y 1))) (M + 2) 2 (nI (x 2))) (M + 3) 2 (nI (x 2) - nI (y 2))) M = mu M := by
    rw [up_k (by omega), up_k (by omega), up_k (by omega), up_k (by omega), up_k (by omega), up_k (by omega)]
  have n23 : ¬ M + 2 = M + 3 := by omega
  have n32 : ¬ M + 3 = M + 2 := by omega
  have r2 : ∀ v, v < 3 → (up (up (up (up (up (up mu (M + 2) 0 (nI (x 0))) (M + 3) 0 (nI (x 0) - nI (y 0))) (M + 2) 1 (nI (x 1))) (M + 3) 1 (nI (x 1) - nI (y 1))) (M + 2) 2 (nI (x 2))) (M + 3) 2 (nI (x 2) - nI (y 2))) (M + 2) v = nI (x v) := by
    intro v hv
    rcases (show v = 0 ∨ v = 1 ∨ v = 2 by omega) with rfl | rfl | rfl <;> simp [up_ap]
  have r3 : ∀ v, v < 3 → (up (up (up (up (up (up mu (M + 2) 0 (nI (x 0))) (M + 3) 0 (nI (x 0) - nI (y 0))) (M + 2) 1 (nI (x 1))) (M + 3) 1 (nI (x 1) - nI (y 1))) (M + 2) 2 (nI (x 2))) (M + 3) 2 (nI (x 2) - nI (y 2))) (M + 3) v = nI (x v) - nI (y v) := by
    intro v hv
    rcases (show v = 0 ∨ v = 1 ∨ v = 2 by omega) with rfl | rfl | rfl <;> simp [up_ap]
  generalize up (up (up (up (up (up mu (M + 2) 0 (nI (x 0))) (M + 3) 0 (nI (x 0) - nI (y 0))) (M + 2) 1 (nI (x 1))) (M + 3) 1 (nI (x 1) - nI (y 1))) (M + 2) 2 (nI (x 2))) (M + 3) 2 (nI (x 2) - nI (y 2)) = m at mf r1 rM r2 r3 ⊢
  have e1 : m (8 + 8 * i) = mu (8 + 8 * i) := mf _ (by omega)
  refine ⟨fun _ => ?_, fun e => absurd (by decide) e⟩
  have k3 : ∀ (X : Nat → Nat → Int32) (q : Nat) (v : Int32), up X (M + 2) q v (8 + 8 * i) = X (8 + 8 * i) := fun X q v => up_k (by omega)
  have k4 : ∀ (X : Nat → Nat → Int32) (q : Nat) (v : Int32), up X (M + 3) q v (8 + 8 * i) = X (8 + 8 * i) := fun X q v => up_k (by omega)
  have k5 : ∀ (X : Nat → Nat → Int32) (q : Nat) (v : Int32), up X (M + 2) q v (M + 1) 3 = X (M + 1) 3 := fun X q v => by rw [up_k (by omega)]
  simp only [Option.some.injEq, Sum.inl.injEq, Sum.inr.injEq, Prod.mk.injEq, and_assoc, exists_eq_left', exists_eq_left, exists_and_left, exists_and_right, exists_eq', exists_eq, forall_eq, forall_eq', true_and, and_true, exists_const, Hm_1, gF_Mv0 hM, gF_Mv1 hM, gF_Mv2 hM, gF_ch_1 _ _ h12, gF_ch_9 _ _ h12, gA_Mv hM (show 1 ≤ 2 ∧ 2 ≤ 3 by decide), ms_Mv hM (show 1 ≤ 2 ∧ 2 ≤ 3 by decide), gA_Mv hM (show 1 ≤ 1 ∧ 1 ≤ 3 by decide), gA_Mv hM (show 1 ≤ 3 ∧ 3 ≤ 3 by decide), ms_Mv hM (show 1 ≤ 3 ∧ 3 ≤ 3 by decide), show vp_in 3 4 from (by unfold vp_in; decide), show ((3 : Int32)).toNatClampNeg = 3 from rfl, gF_Mv5 hM, fs_Mv5 hM, k3, k4, k5, up_at, e1, hc.1.2.1, hc.2.1.2.2.2.1, r1, (hl.1 3 (by decide)).1]
  refine hp _ (((mf.up (by omega) _ _).up (by omega) _ _).up (by omega) _ _) ⟨?_, ?_, ?_⟩ ⟨?_, ?_, ?_⟩
  · exact Row_k hl.1 (by rw [up_k (by omega), up_k (by omega), up_k (by omega), r1])
  · rw [up_j (by decide), up_k (by omega), up_k (by omega), rM]; exact hl.2.1
  · rw [up_j (by decide), up_k (by omega), up_k (by omega), rM]; exact hl.2.2
  · intro v hv
    refine ⟨?_, hx.r hw hi v hv⟩
    rw [up_k (by omega), up_k n23]
    by_cases e : v = 3
    · subst e; rw [up_at, hx.2]
    · rw [up_j e]; exact r2 v (by omega)
  · intro v hv
    rw [up_k (by omega)]
    by_cases e : v = 3
    · subst e; rw [up_at, hx.2]
    · rw [up_j e, up_k n32]; exact r3 v (by omega)
  · rw [up_at]
theorem Lv.mf {t : SG} {j : Nat} {y : Nat → Nat} {M : Nat} {m : Nat → Nat → Int32} (h : Lv t j y M m) {m2 : Nat → Nat → Int32} (e : ∀ k, M ≤ k → k ≤ M + 3 → m2 k = m k) : Lv t j y M m2 := by
  unfold Lv at *
  rw [e M (by omega) (by omega)]
  exact ⟨Row_k h.1 (e (M + 1) (by omega) (by omega)), h.2⟩
theorem sp_Mv_length {Post : Int32 → MH → Prop} {t : SG} {i : Nat} {M : Nat} (hM : IsM M) {m : Nat → Nat → Int32} {x y : Nat → Nat} (ha : Ar t i x y M m) (hx : Px x) (hy : Px y) {l : Nat → Int64} (hp : Post (nI (csM x y)) (Hm m l)) : wp_Mv_length Post M (Hm m l) := by
  unfold wp_Mv_length
  simp only [Option.some.injEq, Sum.inl.injEq, Sum.inr.injEq, Prod.mk.injEq, and_assoc, exists_eq_left', exists_eq_left, exists_and_left, exists_and_right, exists_eq', exists_eq, forall_eq, forall_eq', true_and, and_true, exists_const, Hm_1, gF_Mv2 hM, gA_Mv hM (show 1 ≤ 3 ∧ 3 ≤ 3 by decide), show vp_in 0 4 from (by unfold vp_in; decide), show vp_in 1 4 from (by unfold vp_in; decide), show vp_in 2 4 from (by unfold vp_in; decide), show ((0 : Int32)).toNatClampNeg = 0 from rfl, show ((1 : Int32)).toNatClampNeg = 1 from rfl, show ((2 : Int32)).toNatClampNeg = 2 from rfl, ha.2.1 0 (by decide), ha.2.1 1 (by decide), ha.2.1 2 (by decide), abs_d (hx 0 (by decide)) (hy 0 (by decide)), abs_d (hx 1 (by decide)) (hy 1 (by decide)), abs_d (hx 2 (by decide)) (hy 2 (by decide)), nI_add]
  exact hp
theorem sp_Mv_leaps {Post : Int32 → MH → Prop} {t : SG} (hw : WF t) {i : Nat} {M : Nat} (hM : IsM M) {m : Nat → Nat → Int32} {x y : Nat → Nat} (ha : Ar t i x y M m) (hx : Px x) (hy : Px y) {l : Nat → Int64} (hp : Post (bI (lpA t x y)) (Hm m l)) : wp_Mv_leaps Post M (nI (sp t)) (Hm m l) := by
  have hsp := hw.2.2.1
  have step : ∀ (K : Nat → Int32 → Int32 → MH → Prop) (v : Nat), v < 3 → (¬ sp t < dis (x v) (y v) → K M (nI (sp t)) (nI (v + 1)) (Hm m l)) → (sp t < dis (x v) (y v) → Post 1 (Hm m l)) → wb_Mv_leaps_2 K Post M (nI (sp t)) (nI v) (Hm m l) := by
    intro K v hv h0 h1
    have hd := dis_le (hx v hv) (hy v hv)
    unfold wb_Mv_leaps_2
    refine ⟨fun e => absurd e (nI_ge hv (by decide)), fun _ => ?_⟩
    simp only [Option.some.injEq, Sum.inl.injEq, Sum.inr.injEq, Prod.mk.injEq, and_assoc, exists_eq_left', exists_eq_left, exists_and_left, exists_and_right, exists_eq', exists_eq, forall_eq, forall_eq', true_and, and_true, exists_const, Hm_1, gF_Mv2 hM, gA_Mv hM (show 1 ≤ 3 ∧ 3 ≤ 3 by decide), vp_in_nI (show v < 4 by omega) (show 4 < 2 ^ 31 by decide), nI_clamp (show v < 2 ^ 31 by omega), ha.2.1 v (show v < 4 by omega), abs_d (hx v hv) (hy v hv), nI_leI (show dis (x v) (y v) < 2 ^ 31 by omega) (show sp t < 2 ^ 31 by omega), nI_1]
    exact ⟨fun e => h0 (by omega), fun e => h1 (by omega)⟩
  unfold lpA at hp
  refine ⟨4, step _ 0 (by decide) (fun a => ?_) (fun a => by simp [a] at hp; exact hp)⟩
  refine step _ 1 (by decide) (fun b => ?_) (fun b => by simp [a, b] at hp; exact hp)
  refine step _ 2 (by decide) (fun c => ?_) (fun c => by simp [a, b, c] at hp; exact hp)
  exact ⟨fun _ => by simp [a, b, c] at hp; exact hp, fun e => absurd (by decide) e⟩
theorem rem0_tab : ∀ j : Nat, j < 800 → (iI ((j : Int) - 400) - iI ((j : Int) - 400) / 12 * 12 = 0 ↔ ((j : Int) - 400) % 12 = 0) := by decide +kernel
theorem rem0 {z : Int} (h1 : -400 ≤ z) (h2 : z < 400) : iI z - iI z / 12 * 12 = 0 ↔ z % 12 = 0 := by
  have := rem0_tab (z + 400).toNat (by omega)
  rw [show (((z + 400).toNat : Nat) : Int) - 400 = z by omega] at this
  exact this
theorem sp_Mv_parallel {Post : Int32 → MH → Prop} {t : SG} {i : Nat} {M : Nat} (hM : IsM M) {m : Nat → Nat → Int32} {x y : Nat → Nat} (ha : Ar t i x y M m) (hy : ∀ v, v < 4 → y v ≤ 127) {u v : Nat} (hu : u < 4) (hv : v < 4) (nu : ¬ x u = y u) (nv : ¬ x v = y v) {l : Nat → Int64} (hp : Post (bI (prl x y u v)) (Hm m l)) : wp_Mv_parallel Post M (nI u) (nI v) (Hm m l) := by
  have xu := (ha.1 u hu).2
  have xv := (ha.1 v hv).2
  have yu := hy u hu
  have yv := hy v hv
  unfold wp_Mv_parallel
  simp only [Option.some.injEq, Sum.inl.injEq, Sum.inr.injEq, Prod.mk.injEq, and_assoc, exists_eq_left', exists_eq_left, exists_and_left, exists_and_right, exists_eq', exists_eq, forall_eq, forall_eq', true_and, and_true, exists_const, Hm_1, gF_Mv2 hM, gF_Mv1 hM, gA_Mv hM (show 1 ≤ 3 ∧ 3 ≤ 3 by decide), gA_Mv hM (show 1 ≤ 2 ∧ 2 ≤ 3 by decide), vp_in_nI hu (show 4 < 2 ^ 31 by decide), vp_in_nI hv (show 4 < 2 ^ 31 by decide), nI_clamp (show u < 2 ^ 31 by omega), nI_clamp (show v < 2 ^ 31 by omega), ha.2.1 u hu, ha.2.1 v hv, (ha.1 u hu).1, (ha.1 v hv).1]
  have q1 : nI (x u) - nI (y u) - (nI (x v) - nI (y v)) = iI (((x u : Int) - y u) - ((x v : Int) - y v)) := by rw [iI_n (x u), iI_n (y u), iI_n (x v), iI_n (y v), iI_sub, iI_sub, iI_sub]
  have q2 : nI (x u) - nI (x v) = iI ((x u : Int) - x v) := by rw [iI_n (x u), iI_n (x v), iI_sub]
  have q3 : iI ((x u : Int) - x v) - 7 = iI ((x u : Int) - x v - 7) := by rw [show (7 : Int32) = iI 7 from rfl, iI_sub]
  rw [q1, q2, q3, rem0 (by omega) (by omega), rem0 (by omega) (by omega), rem0 (by omega) (by omega)]
  unfold prl dm at hp
  have t1 : ∀ b : Bool, b = (decide (¬ y u = x u) && decide (¬ y v = x v) && decide ((((y u : Int) - y v) % 12).toNat = (((x u : Int) - x v) % 12).toNat) && (decide ((((y u : Int) - y v) % 12).toNat = 0) || decide ((((y u : Int) - y v) % 12).toNat = 7))) → Post (bI b) (Hm m l) := fun b e => by rw [e]; exact hp
  refine ⟨fun a => ⟨fun b => t1 true ?_, fun b => ⟨fun c => t1 false ?_, fun c => t1 true ?_⟩⟩, fun a => t1 false ?_⟩
  · symm
    simp only [Bool.and_eq_true, Bool.or_eq_true, decide_eq_true_eq]
    omega
  · symm
    rw [Bool.eq_false_iff]
    simp only [ne_eq, Bool.and_eq_true, Bool.or_eq_true, decide_eq_true_eq]
    omega
  · symm
    simp only [Bool.and_eq_true, Bool.or_eq_true, decide_eq_true_eq]
    omega
  · symm
    rw [Bool.eq_false_iff]
    simp only [ne_eq, Bool.and_eq_true, Bool.or_eq_true, decide_eq_true_eq]
    omega
theorem prl_n {x y : Nat → Nat} {u v : Nat} (h : x u = y u ∨ x v = y v) : prl x y u v = false := by
  unfold prl
  rcases h with h | h
  · simp [h]
  · simp [h]
theorem hp23 {K2 : Nat → Int32 → MH → Prop} {K : Nat → Int32 → Int32 → MH → Prop} {Post : Int32 → MH → Prop} {t : SG} {i : Nat} {M : Nat} (hM : IsM M) {m : Nat → Nat → Int32} {x y : Nat → Nat} (ha : Ar t i x y M m) (hy : ∀ v, v < 4 → y v ≤ 127) {u v : Nat} (hu : u < 4) (hv : v < 4) (nu : ¬ x u = y u) {l : Nat → Int64} (h0 : prl x y u v = false → K M (nI u) (nI (v + 1)) (Hm m l)) (h1 : prl x y u v = true → Post 1 (Hm m l)) : wb_Mv_hasParallels_23 K2 K Post M (nI u) (nI v) (Hm m l) := by
  unfold wb_Mv_hasParallels_23 wp_Mv_hasParallels_48
  refine ⟨fun e => absurd e (nI_ge hv (by decide)), fun _ => ?_⟩
  simp only [Option.some.injEq, Sum.inl.injEq, Sum.inr.injEq, Prod.mk.injEq, and_assoc, exists_eq_left', exists_eq_left, exists_and_left, exists_and_right, exists_eq', exists_eq, forall_eq, forall_eq', true_and, and_true, exists_const, Hm_1, gF_Mv2 hM, gC_Mv hM, gA_Mv hM (show 1 ≤ 3 ∧ 3 ≤ 3 by decide), vp_in_nI hv (show 4 < 2 ^ 31 by decide), nI_clamp (show v < 2 ^ 31 by omega), ha.2.1 v hv, by_0 (ha.1 v hv).2 (hy v hv), nI_1]
  refine ⟨fun e => h0 (prl_n (Or.inr e)), fun e => sp_Mv_parallel hM ha hy hu hv nu e ?_⟩
  rw [bI_0]
  exact ⟨fun q => h0 q, fun q => h1 (by simpa using q)⟩
theorem hp2 {K : Nat → Int32 → MH → Prop} {Post : Int32 → MH → Prop} {t : SG} {i : Nat} {M : Nat} (hM : IsM M) {m : Nat → Nat → Int32} {x y : Nat → Nat} (ha : Ar t i x y M m) (hy : ∀ v, v < 4 → y v ≤ 127) {u : Nat} (hu : u < 3) {l : Nat → Int64} (h0 : parRow x y u = false → K M (nI (u + 1)) (Hm m l)) (h1 : parRow x y u = true → Post 1 (Hm m l)) : wb_Mv_hasParallels_2 K Post M (nI u) (Hm m l) := by
  unfold wb_Mv_hasParallels_2
  refine ⟨fun e => absurd e (nI_ge hu (by decide)), fun _ => ?_⟩
  have ex : ∀ n K', parRow x y u = false → wn_Mv_hasParallels_23 K Post (n + 1) M (nI u) (nI 4) (Hm m l) ∧ wb_Mv_hasParallels_23 K K' Post M (nI u) (nI 4) (Hm m l) := by
    intro n K' e
    have := h0 e
    rw [← nI_1] at this
    exact ⟨⟨fun _ => this, fun e => absurd (by decide) e⟩, ⟨fun _ => this, fun e => absurd (by decide) e⟩⟩
  unfold wp_Mv_hasParallels_54
  simp only [Option.some.injEq, Sum.inl.injEq, Sum.inr.injEq, Prod.mk.injEq, and_assoc, exists_eq_left', exists_eq_left, exists_and_left, exists_and_right, exists_eq', exists_eq, forall_eq, forall_eq', true_and, and_true, exists_const, Hm_1, gF_Mv2 hM, gA_Mv hM (show 1 ≤ 3 ∧ 3 ≤ 3 by decide), vp_in_nI (show u < 4 by omega) (show 4 < 2 ^ 31 by decide), nI_clamp (show u < 2 ^ 31 by omega), ha.2.1 u (show u < 4 by omega), by_0 (ha.1 u (by omega)).2 (hy u (by omega)), nI_1]
  refine ⟨fun e => ?_, fun e => h0 ?_⟩
  · rcases (show u = 0 ∨ u = 1 ∨ u = 2 by omega) with rfl | rfl | rfl
    · refine ⟨4, hp23 hM ha hy (by decide) (by decide) e (fun a => ?_) (fun a => h1 (by simp [parRow, a]))⟩
      refine hp23 hM ha hy (by decide) (by decide) e (fun b => ?_) (fun b => h1 (by simp [parRow, b]))
      refine hp23 hM ha hy (by decide) (by decide) e (fun c => ?_) (fun c => h1 (by simp [parRow, c]))
      exact (ex 0 (fun _ _ _ _ => True) (by simp [parRow, a, b, c])).1
    · refine ⟨3, hp23 hM ha hy (by decide) (by decide) e (fun a => ?_) (fun a => h1 (by simp [parRow, a]))⟩
      refine hp23 hM ha hy (by decide) (by decide) e (fun b => ?_) (fun b => h1 (by simp [parRow, b]))
      exact (ex 0 (fun _ _ _ _ => True) (by simp [parRow, a, b])).1
    · refine ⟨2, hp23 hM ha hy (by decide) (by decide) e (fun a => ?_) (fun a => h1 (by simp [parRow, a]))⟩
      exact (ex 0 (fun _ _ _ _ => True) (by simp [parRow, a])).1
  · rcases (show u = 0 ∨ u = 1 ∨ u = 2 by omega) with rfl | rfl | rfl
    · simp [parRow, prl_n (Or.inl e)]
    · simp [parRow, prl_n (Or.inl e)]
    · simp [parRow, prl_n (Or.inl e)]
theorem sp_Mv_hasParallels {Post : Int32 → MH → Prop} {t : SG} {i : Nat} {M : Nat} (hM : IsM M) {m : Nat → Nat → Int32} {x y : Nat → Nat} (ha : Ar t i x y M m) (hy : ∀ v, v < 4 → y v ≤ 127) {l : Nat → Int64} (hp : Post (bI (parA x y)) (Hm m l)) : wp_Mv_hasParallels Post M (Hm m l) := by
  unfold parA at hp
  refine ⟨4, hp2 hM ha hy (u := 0) (by decide) (fun a => ?_) (fun a => by simp [a] at hp; exact hp)⟩
  refine hp2 hM ha hy (u := 1) (by decide) (fun b => ?_) (fun b => by simp [a, b] at hp; exact hp)
  refine hp2 hM ha hy (u := 2) (by decide) (fun c => ?_) (fun c => by simp [a, b, c] at hp; exact hp)
  exact ⟨fun _ => by simp [a, b, c] at hp; exact hp, fun e => absurd (by decide) e⟩
theorem sp_Mv_unprepared {Post : Int32 → MH → Prop} {t : SG} {i : Nat} (h0i : 0 < i) {M : Nat} (hM : IsM M) {m : Nat → Nat → Int32} {x y : Nat → Nat} (ha : Ar t i x y M m) (hy : ∀ v, v < 4 → y v ≤ 127) {l : Nat → Int64} (hp : Post (bI (hldA t i x y)) (Hm m l)) : wp_Mv_unprepared Post M (Hm m l) := by
  have step : ∀ (K : Nat → Int32 → MH → Prop) (v : Nat), v < 3 → (hld t i x y v = false → K M (nI (v + 1)) (Hm m l)) → (hld t i x y v = true → Post 1 (Hm m l)) → wb_Mv_unprepared_2 K Post M (nI v) (Hm m l) := by
    intro K v hv h0 h1
    have xv := ha.1 v (by omega)
    have i0 : ¬ i = 0 := by omega
    unfold hld at h0 h1
    rw [has1_bt _ (by omega)] at h0 h1
    unfold wb_Mv_unprepared_2 wp_Mv_unprepared_35
    refine ⟨fun e => absurd e (nI_ge hv (by decide)), fun _ => ?_⟩
    simp only [Option.some.injEq, Sum.inl.injEq, Sum.inr.injEq, Prod.mk.injEq, and_assoc, exists_eq_left', exists_eq_left, exists_and_left, exists_and_right, exists_eq', exists_eq, forall_eq, forall_eq', true_and, and_true, exists_const, Hm_1, gF_Mv2 hM, gF_Mv1 hM, gF_Mv5 hM, gA_Mv hM (show 1 ≤ 3 ∧ 3 ≤ 3 by decide), gA_Mv hM (show 1 ≤ 2 ∧ 2 ≤ 3 by decide), vp_in_nI (show v < 4 by omega) (show 4 < 2 ^ 31 by decide), nI_clamp (show v < 2 ^ 31 by omega), ha.2.1 v (show v < 4 by omega), by_0 xv.2 (hy v (show v < 4 by omega)), xv.1, sp_Br_classBit _ (show x v < 2 ^ 31 by omega), ha.2.2, bit_and _ (show x v % 12 < 32 by omega), nI_1]
    exact ⟨fun e => h0 (by simp [e, i0]), fun e => ⟨fun q => h0 (by simp [q]), fun q => h1 (by simp at q; simp [q, e])⟩⟩
  unfold hldA at hp
  refine ⟨4, step _ 0 (by decide) (fun a => ?_) (fun a => by simp [a] at hp; exact hp)⟩
  refine step _ 1 (by decide) (fun b => ?_) (fun b => by simp [a, b] at hp; exact hp)
  refine step _ 2 (by decide) (fun c => ?_) (fun c => by simp [a, b, c] at hp; exact hp)
  exact ⟨fun _ => by simp [a, b, c] at hp; exact hp, fun e => absurd (by decide) e⟩
theorem sp_Mv_unresolved {Post : Int32 → MH → Prop} {t : SG} {i : Nat} {M : Nat} (hM : IsM M) {m : Nat → Nat → Int32} {x y : Nat → Nat} (hl : Lv t (i - 1) y M m) (ha : Ar t i x y M m) {l : Nat → Int64} (hp : Post (bI (flsA t i x y)) (Hm m l)) : wp_Mv_unresolved Post M (Hm m l) := by
  have step : ∀ (K : Nat → Int32 → MH → Prop) (v : Nat), v < 3 → (fls t i x y v = false → K M (nI (v + 1)) (Hm m l)) → (fls t i x y v = true → Post 1 (Hm m l)) → wb_Mv_unresolved_2 K Post M (nI v) (Hm m l) := by
    intro K v hv h0 h1
    have xv := ha.1 v (by omega)
    have yv := hl.1 v (by omega)
    unfold fls down at h0 h1
    rw [has1_bt _ (by omega), has1_bt _ (by omega)] at h0 h1
    have st : (nI (x v) - nI (y v)).toInt = (x v : Int) - y v := pk_sub_toInt (by omega) (by omega)
    unfold wb_Mv_unresolved_2 wp_Mv_unresolved_43 wp_Mv_unresolved_69
    refine ⟨fun e => absurd e (nI_ge hv (by decide)), fun _ => ?_⟩
    simp only [Option.some.injEq, Sum.inl.injEq, Sum.inr.injEq, Prod.mk.injEq, and_assoc, exists_eq_left', exists_eq_left, exists_and_left, exists_and_right, exists_eq', exists_eq, forall_eq, forall_eq', true_and, and_true, exists_const, Hm_1, gF_Mv0 hM, gF_Mv2 hM, gF_Mv3 hM, gF_Mv4 hM, gA_Mv hM (show 1 ≤ 3 ∧ 3 ≤ 3 by decide), gA_Mv hM (show 1 ≤ 1 ∧ 1 ≤ 3 by decide), vp_in_nI (show v < 4 by omega) (show 4 < 2 ^ 31 by decide), nI_clamp (show v < 2 ^ 31 by omega), ha.2.1 v (show v < 4 by omega), yv.1, sp_Br_classBit _ (show y v < 2 ^ 31 by omega), hl.2.1, hl.2.2, bit_and _ (show y v % 12 < 32 by omega), sp_Br_within, st, show ((-2 : Int32)).toInt = -2 from rfl, show ((-1 : Int32)).toInt = -1 from rfl, show ((0 : Int32)).toInt = 0 from rfl, bI_0, nI_1]
    generalize bt (smI t (i - 1) 8) (y v % 12) = p at h0 h1 ⊢
    generalize bt (fmI t (i - 1) 8) (y v % 12) = q at h0 h1 ⊢
    have w1 : decide (-2 ≤ (x v : Int) - y v ∧ (x v : Int) - y v ≤ -1) = (decide (x v + 1 = y v) || decide (x v + 2 = y v)) := by
      rw [← Bool.decide_or]; exact decide_eq_decide.mpr (by omega)
    have w2 : decide (-2 ≤ (x v : Int) - y v ∧ (x v : Int) - y v ≤ 0) = ((decide (x v + 1 = y v) || decide (x v + 2 = y v)) || decide (x v = y v)) := by
      rw [← Bool.decide_or, ← Bool.decide_or]; exact decide_eq_decide.mpr (by omega)
    rw [w1, w2]
    have w3 : decide (¬ x v = y v) = !decide (x v = y v) := by simp
    rw [w3] at h0 h1
    generalize (decide (x v + 1 = y v) || decide (x v + 2 = y v)) = d at h0 h1 ⊢
    generalize decide (x v = y v) = e at h0 h1 ⊢
    cases p <;> cases q <;> cases d <;> cases e <;> simp at h0 h1 ⊢ <;> first | exact h0 | exact h1
  unfold flsA at hp
  refine ⟨4, step _ 0 (by decide) (fun a => ?_) (fun a => by simp [a] at hp; exact hp)⟩
  refine step _ 1 (by decide) (fun b => ?_) (fun b => by simp [a, b] at hp; exact hp)
  refine step _ 2 (by decide) (fun c => ?_) (fun c => by simp [a, b, c] at hp; exact hp)
  exact ⟨fun _ => by simp [a, b, c] at hp; exact hp, fun e => absurd (by decide) e⟩
theorem has1_0 (c : Nat) (hc : c < 32) : has1 0 c = false := by rw [has1_bt _ hc, b_0]
theorem sp_Mv_rule {Post : Int32 → MH → Prop} {t : SG} (hw : WF t) {i : Nat} (h0i : 0 < i) {M : Nat} (hM : IsM M) {m : Nat → Nat → Int32} {x y : Nat → Nat} (hl : Lv t (i - 1) y M m) (ha : Ar t i x y M m) {l : Nat → Int64} (hp : Post (nI (pairR t i x y)) (Hm m l)) : wp_Mv_rule Post M (nI (sp t)) (Hm m l) := by
  have hx : Px x := fun v hv => (ha.1 v (by omega)).2
  have hy4 : ∀ v, v < 4 → y v ≤ 127 := fun v hv => (hl.1 v hv).2
  have hy : Px y := fun v hv => hy4 v (by omega)
  unfold wp_Mv_rule
  refine ⟨gC_Mv hM m l, sp_Mv_leaps hw hM ha hx hy ?_⟩
  unfold pairR at hp
  rw [bI_0]
  cases e8 : lpA t x y
  · rw [e8] at hp
    refine ⟨fun _ => ⟨gC_Mv hM m l, sp_Mv_hasParallels hM ha hy4 ?_⟩, fun q => absurd rfl q⟩
    unfold pairQ at hp
    rw [bI_0]
    cases e9 : parA x y
    · rw [e9] at hp
      refine ⟨fun _ => ?_, fun q => absurd rfl q⟩
      have last : hldA t i x y = false → wp_Mv_rule_38 Post M (Hm m l) := by
        intro e10
        rw [e10] at hp
        unfold wp_Mv_rule_38
        simp only [Option.some.injEq, Sum.inl.injEq, Sum.inr.injEq, Prod.mk.injEq, and_assoc, exists_eq_left', exists_eq_left, exists_and_left, exists_and_right, exists_eq', exists_eq, forall_eq, forall_eq', true_and, and_true, exists_const, Hm_1, gF_Mv3 hM, gF_Mv4 hM, gC_Mv hM, hl.2.1, hl.2.2]
        refine ⟨fun z => ?_, fun _ => sp_Mv_unresolved hM hl ha ?_⟩
        · have zz := z_bt.mp z
          have z1 : ∀ c, c < 12 → has1 (smI t (i - 1) 8) c = false := fun c hc => by
            have := zz c (by omega); rw [b_or] at this; rw [has1_bt _ (by omega)]; simp only [Bool.or_eq_false_iff] at this; exact this.1
          have z2 : ∀ c, c < 12 → has1 (fmI t (i - 1) 8) c = false := fun c hc => by
            have := zz c (by omega); rw [b_or] at this; rw [has1_bt _ (by omega)]; simp only [Bool.or_eq_false_iff] at this; exact this.2
          have : flsA t i x y = false := by
            unfold flsA fls
            rw [z1 _ (by omega), z2 _ (by omega), z1 _ (by omega), z2 _ (by omega), z1 _ (by omega), z2 _ (by omega)]
            rfl
          rw [this] at hp
          exact hp
        · rw [bI_0]
          cases e11 : flsA t i x y
          · rw [e11] at hp; exact ⟨fun _ => hp, fun q => absurd rfl q⟩
          · rw [e11] at hp; exact ⟨fun q => (by cases q), fun _ => hp⟩
      simp only [Option.some.injEq, Sum.inl.injEq, Sum.inr.injEq, Prod.mk.injEq, and_assoc, exists_eq_left', exists_eq_left, exists_and_left, exists_and_right, exists_eq', exists_eq, forall_eq, forall_eq', true_and, and_true, exists_const, Hm_1, gF_Mv5 hM, gC_Mv hM, ha.2.2]
      refine ⟨fun z => last ?_, fun _ => sp_Mv_unprepared h0i hM ha hy4 ?_⟩
      · unfold hldA hld
        rw [z, has1_0 _ (by omega), has1_0 _ (by omega), has1_0 _ (by omega)]
        rfl
      · rw [bI_0]
        cases e10 : hldA t i x y
        · exact ⟨fun _ => last e10, fun q => absurd rfl q⟩
        · rw [e10] at hp; exact ⟨fun q => (by cases q), fun _ => hp⟩
    · rw [e9] at hp; exact ⟨fun q => (by cases q), fun _ => hp⟩
  · rw [e8] at hp; exact ⟨fun q => (by cases q), fun _ => hp⟩
