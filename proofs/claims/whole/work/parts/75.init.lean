def lh (cs : List MC) : MH := (cs.length, fun k => cs.getD k (.inl (0, [])))
theorem l_new (cs : List MC) (x : MC) : mnew (lh cs) x = lh (cs ++ [x]) := by
  refine Prod.ext (by simp [mnew, lh]) (funext fun k => ?_)
  show va_up (fun k => cs.getD k (.inl (0, []))) cs.length x k = (cs ++ [x]).getD k (.inl (0, []))
  by_cases e : k = cs.length
  · subst e; rw [va_up_self]; simp
  · rw [va_up_ne _ _ e]
    by_cases q : k < cs.length
    · simp [List.getD_eq_getElem?_getD, List.getElem?_append_left q]
    · have h1 : cs.length ≤ k := by omega
      have h2 : (cs ++ [x]).length ≤ k := by simp; omega
      simp [List.getD_eq_getElem?_getD, List.getElem?_eq_none h1, List.getElem?_eq_none h2]
theorem l_set {cs : List MC} {k : Nat} (h : k < cs.length) (x : MC) : mset (lh cs) k x = lh (cs.set k x) := by
  refine Prod.ext (by simp [mset, lh]) (funext fun q => ?_)
  show va_up (fun k => cs.getD k (.inl (0, []))) k x q = (cs.set k x).getD q (.inl (0, []))
  by_cases e : q = k
  · subst e; rw [va_up_self]; simp [List.getD_eq_getElem?_getD, h]
  · rw [va_up_ne _ _ e]; simp [List.getD_eq_getElem?_getD, List.getElem?_set_ne (Ne.symm e)]
theorem l_at {cs : List MC} {k : Nat} {x : MC} (h : cs[k]? = some x) : k < (lh cs).1 ∧ (lh cs).2 k = x := by
  refine ⟨(List.getElem?_eq_some_iff.mp h).1, ?_⟩
  show cs.getD k (.inl (0, [])) = x
  rw [List.getD_eq_getElem?_getD, h]; rfl
theorem l_gF {cs : List MC} {k ci j : Nat} {fs : List MV} {o : MV} (h : cs[k]? = some (.inl (ci, fs))) (h2 : fs[j]? = some o) : gF (lh cs) k ci j = some o := by
  obtain ⟨a, b⟩ := l_at h
  unfold gF; rw [if_pos a, b]; simp [h2]
theorem l_gC {cs : List MC} {k ci : Nat} {fs : List MV} (h : cs[k]? = some (.inl (ci, fs))) : gC (lh cs) k = some ci := by
  obtain ⟨a, b⟩ := l_at h
  unfold gC; rw [if_pos a, b]
theorem l_gA {cs : List MC} {k t n : Nat} {f : Nat → Int32} (h : cs[k]? = some (.inr (t, n, .inl f))) : gA (lh cs) k t = some (n, f) := by
  obtain ⟨a, b⟩ := l_at h
  unfold gA gX; rw [if_pos a, b]; simp
theorem l_gR {cs : List MC} {k t n : Nat} {f : Nat → Option Nat} (h : cs[k]? = some (.inr (t, n, .inr (.inr f)))) : gR (lh cs) k t = some (n, f) := by
  obtain ⟨a, b⟩ := l_at h
  unfold gR gX; rw [if_pos a, b]; simp
theorem l_fs {cs : List MC} {k ci j : Nat} {fs : List MV} (h : cs[k]? = some (.inl (ci, fs))) (v : MV) : fset (lh cs) k j v = lh (cs.set k (.inl (ci, fs.set j v))) := by
  obtain ⟨a, b⟩ := l_at h
  unfold fset; rw [b]
  exact l_set a _
theorem ap_at {cs ds : List MC} {N : Nat} (hN : cs.length = N) {j : Nat} : (cs ++ ds)[N + j]? = ds[j]? := by
  subst hN; rw [List.getElem?_append_right (by omega), Nat.add_sub_cancel_left]
theorem ap_set {cs ds : List MC} {N : Nat} (hN : cs.length = N) {j : Nat} {x : MC} : (cs ++ ds).set (N + j) x = cs ++ ds.set j x := by
  subst hN; rw [List.set_append_right _ _ (by omega), Nat.add_sub_cancel_left]
theorem a_new (cs ds : List MC) (x : MC) : mnew (lh (cs ++ ds)) x = lh (cs ++ (ds ++ [x])) := by rw [l_new, List.append_assoc]
theorem a_len {cs : List MC} {N : Nat} (hN : cs.length = N) (ds : List MC) : (lh (cs ++ ds)).1 = N + ds.length := by
  subst hN; exact List.length_append
theorem a_gF {cs ds : List MC} {N : Nat} (hN : cs.length = N) {j ci q : Nat} {fs : List MV} {o : MV} (h : ds[j]? = some (.inl (ci, fs))) (h2 : fs[q]? = some o) : gF (lh (cs ++ ds)) (N + j) ci q = some o := l_gF ((ap_at hN).trans h) h2
theorem a_gC {cs ds : List MC} {N : Nat} (hN : cs.length = N) {j ci : Nat} {fs : List MV} (h : ds[j]? = some (.inl (ci, fs))) : gC (lh (cs ++ ds)) (N + j) = some ci := l_gC ((ap_at hN).trans h)
theorem a_gA {cs ds : List MC} {N : Nat} (hN : cs.length = N) {j t n : Nat} {f : Nat → Int32} (h : ds[j]? = some (.inr (t, n, .inl f))) : gA (lh (cs ++ ds)) (N + j) t = some (n, f) := l_gA ((ap_at hN).trans h)
theorem a_fs {cs ds : List MC} {N : Nat} (hN : cs.length = N) {j ci q : Nat} {fs : List MV} (h : ds[j]? = some (.inl (ci, fs))) (v : MV) : fset (lh (cs ++ ds)) (N + j) q v = lh (cs ++ ds.set j (.inl (ci, fs.set q v))) := (l_fs ((ap_at hN).trans h) v).trans (by rw [ap_set hN])
theorem a_ms {cs ds : List MC} {N : Nat} (hN : cs.length = N) {j : Nat} (h : j < ds.length) (x : MC) : mset (lh (cs ++ ds)) (N + j) x = lh (cs ++ ds.set j x) := (l_set (by rw [List.length_append]; omega) x).trans (by rw [ap_set hN])
theorem p_at {ds bl : List MC} {j : Nat} {x : MC} (h : ds[j]? = some x) : (ds ++ bl)[j]? = some x := by
  have := (List.getElem?_eq_some_iff.mp h).1
  rw [List.getElem?_append_left this]; exact h
theorem p_gF {ds bl : List MC} {j ci q : Nat} {fs : List MV} {o : MV} (h : ds[j]? = some (.inl (ci, fs))) (h2 : fs[q]? = some o) : gF (lh (ds ++ bl)) j ci q = some o := l_gF (p_at h) h2
theorem p_gR {ds bl : List MC} {j t n : Nat} {f : Nat → Option Nat} (h : ds[j]? = some (.inr (t, n, .inr (.inr f)))) : gR (lh (ds ++ bl)) j t = some (n, f) := l_gR (p_at h)
theorem p_set {ds bl : List MC} {j : Nat} (h : j < ds.length) (x : MC) : (ds ++ bl).set j x = ds.set j x ++ bl := List.set_append_left _ _ h
theorem p_fs {ds bl : List MC} {j ci q : Nat} {fs : List MV} (h : ds[j]? = some (.inl (ci, fs))) (v : MV) : fset (lh (ds ++ bl)) j q v = lh (ds.set j (.inl (ci, fs.set q v)) ++ bl) := (l_fs (p_at h) v).trans (by rw [p_set (List.getElem?_eq_some_iff.mp h).1])
theorem p_ms {ds bl : List MC} {j : Nat} (h : j < ds.length) (x : MC) : mset (lh (ds ++ bl)) j x = lh (ds.set j x ++ bl) := (l_set (by rw [List.length_append]; omega) x).trans (by rw [p_set h])
abbrev aI (n : Nat) : MC := .inr (0, n, .inl (fun _ => 0))
abbrev aB (n : Nat) : MC := .inr (1, n, .inl (fun _ => 0))
abbrev rr (n : Nat) : MV := .inr (some n)
abbrev ch0 : MC := .inl (0, [.inl 0, .inl 0, .inl 0, .inl 0, .inr none, .inr none, .inl 0, .inl 0, .inl 0, .inl 0, .inl 0])
abbrev chC (N : Nat) : MC := .inl (0, [.inl 0, .inl 0, .inl 0, .inl 0, rr (N + 1), rr (N + 2), .inl (-1), .inl 0, .inl 0, .inl 0, .inl 0])
theorem sp_Ch_init {Post : MH → Prop} {cs : List MC} {N : Nat} (hN : cs.length = N) (hp : Post (lh (cs ++ [chC N, aI 10, aI 3]))) : wp_Ch_init Post 0 0 N (lh (cs ++ [ch0])) := by
  unfold wp_Ch_init
  refine ⟨by decide, fun k h ek eh => ?_⟩
  obtain rfl := ek.trans (a_len hN _)
  obtain rfl := eh.trans (a_new _ _ _)
  refine ⟨⟨_, a_gF hN (j := 0) rfl rfl⟩, fun h eh => ?_⟩
  obtain rfl := eh.trans (a_fs hN (j := 0) rfl _)
  refine ⟨by decide, fun k h ek eh => ?_⟩
  obtain rfl := ek.trans (a_len hN _)
  obtain rfl := eh.trans (a_new _ _ _)
  refine ⟨⟨_, a_gF hN (j := 0) rfl rfl⟩, fun h eh => ?_⟩
  obtain rfl := eh.trans (a_fs hN (j := 0) rfl _)
  refine ⟨⟨_, a_gF hN (j := 0) rfl rfl⟩, fun h eh => ?_⟩
  obtain rfl := eh.trans (a_fs hN (j := 0) rfl _)
  exact ⟨by decide, hp⟩
abbrev co0 : MC := .inl (1, [.inr none, .inr none, .inr none, .inr none, .inl 0, .inl 0])
abbrev coC (N : Nat) : MC := .inl (1, [rr (N + 1), rr (N + 2), rr (N + 3), rr (N + 4), .inl 0, .inl 0])
theorem sp_Co_init {Post : MH → Prop} {cs : List MC} {N : Nat} (hN : cs.length = N) (hp : Post (lh (cs ++ [coC N, aI 112, aB 112, aI 112, aI 112]))) : wp_Co_init Post 0 0 N (lh (cs ++ [co0])) := by
  unfold wp_Co_init
  refine ⟨by decide, fun k h ek eh => ?_⟩
  obtain rfl := ek.trans (a_len hN _)
  obtain rfl := eh.trans (a_new _ _ _)
  refine ⟨⟨_, a_gF hN (j := 0) rfl rfl⟩, fun h eh => ?_⟩
  obtain rfl := eh.trans (a_fs hN (j := 0) rfl _)
  refine ⟨by decide, fun k h ek eh => ?_⟩
  obtain rfl := ek.trans (a_len hN _)
  obtain rfl := eh.trans (a_new _ _ _)
  refine ⟨⟨_, a_gF hN (j := 0) rfl rfl⟩, fun h eh => ?_⟩
  obtain rfl := eh.trans (a_fs hN (j := 0) rfl _)
  refine ⟨by decide, fun k h ek eh => ?_⟩
  obtain rfl := ek.trans (a_len hN _)
  obtain rfl := eh.trans (a_new _ _ _)
  refine ⟨⟨_, a_gF hN (j := 0) rfl rfl⟩, fun h eh => ?_⟩
  obtain rfl := eh.trans (a_fs hN (j := 0) rfl _)
  refine ⟨by decide, fun k h ek eh => ?_⟩
  obtain rfl := ek.trans (a_len hN _)
  obtain rfl := eh.trans (a_new _ _ _)
  refine ⟨⟨_, a_gF hN (j := 0) rfl rfl⟩, fun h eh => ?_⟩
  obtain rfl := eh.trans (a_fs hN (j := 0) rfl _)
  exact ⟨by decide, hp⟩
abbrev mv0 : MC := .inl (2, [.inr none, .inr none, .inr none, .inl 0, .inl 0, .inl 0])
abbrev mvC (N : Nat) : MC := .inl (2, [rr (N + 1), rr (N + 2), rr (N + 3), .inl 0, .inl 0, .inl 0])
theorem sp_Mv_init {Post : MH → Prop} {cs : List MC} {N : Nat} (hN : cs.length = N) (hp : Post (lh (cs ++ [mvC N, aI 4, aI 4, aI 4]))) : wp_Mv_init Post 0 0 N (lh (cs ++ [mv0])) := by
  unfold wp_Mv_init
  refine ⟨by decide, fun k h ek eh => ?_⟩
  obtain rfl := ek.trans (a_len hN _)
  obtain rfl := eh.trans (a_new _ _ _)
  refine ⟨⟨_, a_gF hN (j := 0) rfl rfl⟩, fun h eh => ?_⟩
  obtain rfl := eh.trans (a_fs hN (j := 0) rfl _)
  refine ⟨by decide, fun k h ek eh => ?_⟩
  obtain rfl := ek.trans (a_len hN _)
  obtain rfl := eh.trans (a_new _ _ _)
  refine ⟨⟨_, a_gF hN (j := 0) rfl rfl⟩, fun h eh => ?_⟩
  obtain rfl := eh.trans (a_fs hN (j := 0) rfl _)
  refine ⟨by decide, fun k h ek eh => ?_⟩
  obtain rfl := ek.trans (a_len hN _)
  obtain rfl := eh.trans (a_new _ _ _)
  refine ⟨⟨_, a_gF hN (j := 0) rfl rfl⟩, fun h eh => ?_⟩
  obtain rfl := eh.trans (a_fs hN (j := 0) rfl _)
  exact ⟨by decide, hp⟩
abbrev a3 (a b c : Int32) : MC := .inr (0, 3, .inl (upd (upd (upd (fun _ => 0) 0 a) 1 b) 2 c))
abbrev ru0 : MC := .inl (3, [.inr none, .inr none, .inr none, .inl 0, .inl 0])
abbrev ruC (N : Nat) : MC := .inl (3, [rr (N + 1), rr (N + 2), rr (N + 3), .inl 12, .inl 0])
theorem sp_Ru_init {Post : MH → Prop} {cs : List MC} {N : Nat} (hN : cs.length = N) (hp : Post (lh (cs ++ [ruC N, a3 60 55 48, a3 81 74 69, a3 72 67 60]))) : wp_Ru_init Post 0 0 N (lh (cs ++ [ru0])) := by
  unfold wp_Ru_init
  refine ⟨by decide, fun k h ek eh => ?_⟩
  obtain rfl := ek.trans (a_len hN _)
  obtain rfl := eh.trans (a_new _ _ _)
  refine ⟨_, _, a_gA hN (j := 1) rfl, by unfold vp_in; decide, fun h eh => ?_⟩
  obtain rfl := eh.trans (a_ms hN (j := 1) (by show 1 < 2; decide) _)
  refine ⟨_, _, a_gA hN (j := 1) rfl, by unfold vp_in; decide, fun h eh => ?_⟩
  obtain rfl := eh.trans (a_ms hN (j := 1) (by show 1 < 2; decide) _)
  refine ⟨_, _, a_gA hN (j := 1) rfl, by unfold vp_in; decide, fun h eh => ?_⟩
  obtain rfl := eh.trans (a_ms hN (j := 1) (by show 1 < 2; decide) _)
  refine ⟨⟨_, a_gF hN (j := 0) rfl rfl⟩, fun h eh => ?_⟩
  obtain rfl := eh.trans (a_fs hN (j := 0) rfl _)
  refine ⟨by decide, fun k h ek eh => ?_⟩
  obtain rfl := ek.trans (a_len hN _)
  obtain rfl := eh.trans (a_new _ _ _)
  refine ⟨_, _, a_gA hN (j := 2) rfl, by unfold vp_in; decide, fun h eh => ?_⟩
  obtain rfl := eh.trans (a_ms hN (j := 2) (by show 2 < 3; decide) _)
  refine ⟨_, _, a_gA hN (j := 2) rfl, by unfold vp_in; decide, fun h eh => ?_⟩
  obtain rfl := eh.trans (a_ms hN (j := 2) (by show 2 < 3; decide) _)
  refine ⟨_, _, a_gA hN (j := 2) rfl, by unfold vp_in; decide, fun h eh => ?_⟩
  obtain rfl := eh.trans (a_ms hN (j := 2) (by show 2 < 3; decide) _)
  refine ⟨⟨_, a_gF hN (j := 0) rfl rfl⟩, fun h eh => ?_⟩
  obtain rfl := eh.trans (a_fs hN (j := 0) rfl _)
  refine ⟨by decide, fun k h ek eh => ?_⟩
  obtain rfl := ek.trans (a_len hN _)
  obtain rfl := eh.trans (a_new _ _ _)
  refine ⟨_, _, a_gA hN (j := 3) rfl, by unfold vp_in; decide, fun h eh => ?_⟩
  obtain rfl := eh.trans (a_ms hN (j := 3) (by show 3 < 4; decide) _)
  refine ⟨_, _, a_gA hN (j := 3) rfl, by unfold vp_in; decide, fun h eh => ?_⟩
  obtain rfl := eh.trans (a_ms hN (j := 3) (by show 3 < 4; decide) _)
  refine ⟨_, _, a_gA hN (j := 3) rfl, by unfold vp_in; decide, fun h eh => ?_⟩
  obtain rfl := eh.trans (a_ms hN (j := 3) (by show 3 < 4; decide) _)
  refine ⟨⟨_, a_gF hN (j := 0) rfl rfl⟩, fun h eh => ?_⟩
  obtain rfl := eh.trans (a_fs hN (j := 0) rfl _)
  refine ⟨⟨_, a_gF hN (j := 0) rfl rfl⟩, fun h eh => ?_⟩
  obtain rfl := eh.trans (a_fs hN (j := 0) rfl _)
  refine ⟨⟨_, a_gF hN (j := 0) rfl rfl⟩, fun h eh => ?_⟩
  obtain rfl := eh.trans (a_fs hN (j := 0) rfl _)
  exact ⟨by decide, hp⟩
abbrev br0 : MC := .inl (5, [.inr none, .inr none, .inr none, .inr none, .inl 0])
abbrev se0 : MC := .inl (4, [.inr none, .inr none, .inr none, .inr none, .inr none, .inl 0, .inl 0, .inl 0, .inl 0])
abbrev seI : MC := .inl (4, [rr 2, rr 3, rr 7, .inr none, .inr none, .inl 0, .inl 0, .inl 0, .inl 0])
abbrev seC : MC := .inl (4, [rr 2, rr 3, rr 7, rr 104, rr 108, .inl (-1), .inl 0, .inl 0, .inl 0])
def rA (i b : Nat) : Nat → Option Nat := fun q => if q < i then some (b + 8 * q) else none
theorem rA_s (i b : Nat) : va_up (rA i b) i (some (b + 8 * i)) = rA (i + 1) b := by
  funext q
  by_cases e : q = i
  · subst e; rw [va_up_self]; unfold rA; rw [if_pos (by omega)]
  · rw [va_up_ne _ _ e]; unfold rA
    by_cases c : q < i
    · rw [if_pos c, if_pos (by omega)]
    · rw [if_neg c, if_neg (by omega)]
theorem rA_0 (b : Nat) : (fun _ => none) = rA 0 b := by funext q; unfold rA; rw [if_neg (by omega)]
abbrev arr (t : Nat) (f : Nat → Option Nat) : MC := .inr (t, 12, .inr (.inr f))
abbrev pre2 (se : MC) (f g : Nat → Option Nat) : List MC := [br0, se, arr 3 f, ruC 3, a3 60 55 48, a3 81 74 69, a3 72 67 60, arr 4 g]
def blk (i : Nat) : List MC := [chC (8 + 8 * i), aI 10, aI 3, coC (11 + 8 * i), aI 112, aB 112, aI 112, aI 112]
def bl : Nat → List MC
  | 0 => []
  | i + 1 => bl i ++ blk i
theorem bl_len : ∀ i, (bl i).length = 8 * i
  | 0 => rfl
  | i + 1 => by
    show (bl i ++ blk i).length = _
    rw [List.length_append, bl_len i]; show 8 * i + 8 = _; omega
abbrev tl1 : List MC := [mvC 104, aI 4, aI 4, aI 4, aI 12]
set_option maxHeartbeats 4000000 in
theorem se35 {Post : MH → Prop} (hp : Post (lh (pre2 seC (rA 12 8) (rA 12 11) ++ (bl 12 ++ tl1)))) : ∀ j i, i + j = 12 → wn_Se_init_35 Post (j + 1) (6 + 8 * i) (38 + 478 * i) 1 (nI i) (lh (pre2 seI (rA i 8) (rA i 11) ++ bl i)) := by
  intro j
  induction j with
  | zero =>
    intro i hi
    obtain rfl : i = 12 := by omega
    refine ⟨fun _ => ⟨by decide, fun k h ek eh => ?_⟩, fun e => absurd (by decide) e⟩
    have l1 : (pre2 seI (rA 12 8) (rA 12 11) ++ bl 12).length = 104 := by rw [List.length_append, bl_len]; rfl
    obtain rfl := eh.trans (l_new _ _)
    obtain rfl := ek.trans l1
    refine ⟨by decide, sp_Mv_init l1 ?_⟩
    rw [List.append_assoc]
    refine ⟨⟨_, p_gF (j := 1) rfl rfl⟩, fun h eh => ?_⟩
    obtain rfl := eh.trans (p_fs (j := 1) rfl _)
    refine ⟨by decide, fun k h ek eh => ?_⟩
    obtain rfl := eh.trans (a_new _ _ _)
    have l2 : (lh ((pre2 seI (rA 12 8) (rA 12 11)).set 1 (.inl (4, [rr 2, rr 3, rr 7, rr 104, .inr none, .inl 0, .inl 0, .inl 0, .inl 0])) ++ (bl 12 ++ [mvC 104, aI 4, aI 4, aI 4]))).1 = 108 := by
      show List.length (_ ++ (_ ++ _)) = 108
      rw [List.length_append, List.length_append, bl_len]; rfl
    obtain rfl := ek.trans l2
    refine ⟨⟨_, p_gF (j := 1) rfl rfl⟩, fun h eh => ?_⟩
    obtain rfl := eh.trans (p_fs (j := 1) rfl _)
    refine ⟨⟨_, p_gF (j := 1) rfl rfl⟩, fun h eh => ?_⟩
    obtain rfl := eh.trans (p_fs (j := 1) rfl _)
    refine ⟨by decide, ?_⟩
    rw [List.append_assoc]
    exact hp
  | succ j ih =>
    intro i hi
    have h12 : i < 12 := by omega
    refine ⟨fun e => absurd e (nI_ge h12 (by decide)), fun _ => ⟨2, p_gF (j := 1) rfl rfl, ⟨by omega, by omega⟩, fun k h ek eh => ?_⟩⟩
    have l1 : (pre2 seI (rA i 8) (rA i 11) ++ bl i).length = 8 + 8 * i := by rw [List.length_append, bl_len]; rfl
    obtain rfl := eh.trans (l_new _ _)
    obtain rfl := ek.trans l1
    refine ⟨⟨by omega, by omega⟩, sp_Ch_init l1 ?_⟩
    have gc : gC (lh ((pre2 seI (rA i 8) (rA i 11) ++ bl i) ++ [chC (8 + 8 * i), aI 10, aI 3])) (8 + 8 * i + 0) = some 0 := a_gC l1 (j := 0) rfl
    rw [List.append_assoc] at gc ⊢
    refine ⟨12, rA i 8, p_gR (j := 2) rfl, vp_in_nI h12 (by decide), gc, fun h eh => ?_⟩
    rw [nI_clamp (by omega), rA_s] at eh
    obtain rfl := eh.trans (p_ms (j := 2) (by show 2 < 8; decide) _)
    refine ⟨7, p_gF (j := 1) rfl rfl, ⟨by omega, by omega⟩, fun k h ek eh => ?_⟩
    have l2 : (pre2 seI (rA (i + 1) 8) (rA i 11) ++ (bl i ++ [chC (8 + 8 * i), aI 10, aI 3])).length = 11 + 8 * i := by
      rw [List.length_append, List.length_append, bl_len]; show 8 + (8 * i + 3) = _; omega
    have eh2 : h = lh ((pre2 seI (rA (i + 1) 8) (rA i 11) ++ (bl i ++ [chC (8 + 8 * i), aI 10, aI 3])) ++ [co0]) := eh.trans (l_new _ _)
    have ek2 : k = 11 + 8 * i := ek.trans l2
    subst eh2 ek2
    refine ⟨⟨by omega, by omega⟩, sp_Co_init l2 ?_⟩
    have gc2 : gC (lh ((pre2 seI (rA (i + 1) 8) (rA i 11) ++ (bl i ++ [chC (8 + 8 * i), aI 10, aI 3])) ++ [coC (11 + 8 * i), aI 112, aB 112, aI 112, aI 112])) (11 + 8 * i + 0) = some 1 := a_gC l2 (j := 0) rfl
    rw [List.append_assoc] at gc2 ⊢
    refine ⟨12, rA i 11, p_gR (j := 7) rfl, vp_in_nI h12 (by decide), gc2, fun h eh => ?_⟩
    rw [nI_clamp (by omega), rA_s] at eh
    obtain rfl := eh.trans (p_ms (j := 7) (by show 7 < 8; decide) _)
    rw [nI_1, List.append_assoc]
    have := ih (i + 1) (by omega)
    rw [show 6 + 8 * (i + 1) = 6 + 8 * i + 1 + 2 + 1 + 4 by omega, show 38 + 478 * (i + 1) = 38 + 478 * i + 11 + 13 + 6 + 448 by omega] at this
    exact this
set_option maxHeartbeats 4000000 in
theorem sp_Se_init {Post : MH → Prop} (hp : Post (lh (pre2 seC (rA 12 8) (rA 12 11) ++ (bl 12 ++ tl1)))) : wp_Se_init Post 0 0 1 (lh ([br0] ++ [se0])) := by
  have hN : ([br0] : List MC).length = 1 := rfl
  unfold wp_Se_init
  refine ⟨by decide, fun k h ek eh => ?_⟩
  obtain rfl := ek.trans (a_len hN _)
  obtain rfl := eh.trans (a_new _ _ _)
  refine ⟨⟨_, a_gF hN (j := 0) rfl rfl⟩, fun h eh => ?_⟩
  obtain rfl := eh.trans (a_fs hN (j := 0) rfl _)
  refine ⟨by decide, fun k h ek eh => ?_⟩
  obtain rfl := ek.trans (a_len hN _)
  obtain rfl := eh.trans (a_new _ _ _)
  refine ⟨by decide, sp_Ru_init (N := 3) (cs := [br0, .inl (4, [rr 2, .inr none, .inr none, .inr none, .inr none, .inl 0, .inl 0, .inl 0, .inl 0]), arr 3 (fun _ => none)]) rfl ?_⟩
  have hN3 : ([br0] : List MC).length = 1 := rfl
  refine ⟨⟨_, l_gF (k := 1) rfl rfl⟩, fun h eh => ?_⟩
  obtain rfl := eh.trans (l_fs (k := 1) rfl _)
  refine ⟨by decide, fun k h ek eh => ?_⟩
  obtain rfl := ek.trans (show _ = 7 from rfl)
  obtain rfl := eh.trans (l_new _ _)
  refine ⟨⟨_, l_gF (k := 1) rfl rfl⟩, fun h eh => ?_⟩
  obtain rfl := eh.trans (l_fs (k := 1) rfl _)
  have := se35 hp 12 0 rfl
  rw [← rA_0, ← rA_0] at this
  exact ⟨_, this⟩
abbrev brC : MC := .inl (5, [rr 1, rr 2, rr 3, rr 109, .inl 0])
abbrev pre3 : List MC := [brC, seC, arr 3 (rA 12 8), ruC 3, a3 60 55 48, a3 81 74 69, a3 72 67 60, arr 4 (rA 12 11)]
abbrev tl2 : List MC := [mvC 104, aI 4, aI 4, aI 4, aI 12, mvC 109, aI 4, aI 4, aI 4]
set_option maxHeartbeats 4000000 in
theorem sp_Br_init {Post : MH → Prop} (hp : Post (lh (pre3 ++ (bl 12 ++ tl2)))) : wp_Br_init Post 0 0 0 (lh [br0]) := by
  unfold wp_Br_init
  refine ⟨by decide, fun k h ek eh => ?_⟩
  obtain rfl := ek.trans (show _ = 1 from rfl)
  obtain rfl := eh.trans (l_new _ _)
  refine ⟨by decide, sp_Se_init ?_⟩
  refine ⟨⟨_, p_gF (j := 0) rfl rfl⟩, fun h eh => ?_⟩
  obtain rfl := eh.trans (p_fs (j := 0) rfl _)
  refine ⟨1, p_gF (j := 0) rfl rfl, 2, p_gF (j := 1) rfl rfl, ⟨_, p_gF (j := 0) rfl rfl⟩, fun h eh => ?_⟩
  obtain rfl := eh.trans (p_fs (j := 0) rfl _)
  refine ⟨1, p_gF (j := 0) rfl rfl, 3, p_gF (j := 1) rfl rfl, ⟨_, p_gF (j := 0) rfl rfl⟩, fun h eh => ?_⟩
  obtain rfl := eh.trans (p_fs (j := 0) rfl _)
  refine ⟨by decide, fun k h ek eh => ?_⟩
  have l1 : ([.inl (5, [rr 1, rr 2, rr 3, .inr none, .inl 0]), seC, arr 3 (rA 12 8), ruC 3, a3 60 55 48, a3 81 74 69, a3 72 67 60, arr 4 (rA 12 11)] ++ (bl 12 ++ tl1) : List MC).length = 109 := by
    rw [List.length_append, List.length_append, bl_len]; rfl
  have eh2 : h = lh (([.inl (5, [rr 1, rr 2, rr 3, .inr none, .inl 0]), seC, arr 3 (rA 12 8), ruC 3, a3 60 55 48, a3 81 74 69, a3 72 67 60, arr 4 (rA 12 11)] ++ (bl 12 ++ tl1)) ++ [mv0]) := eh.trans (l_new _ _)
  have ek2 : k = 109 := ek.trans l1
  subst eh2 ek2
  refine ⟨by decide, sp_Mv_init l1 ?_⟩
  rw [List.append_assoc]
  refine ⟨⟨_, p_gF (j := 0) rfl rfl⟩, fun h eh => ?_⟩
  obtain rfl := eh.trans (p_fs (j := 0) rfl _)
  refine ⟨⟨_, p_gF (j := 0) rfl rfl⟩, fun h eh => ?_⟩
  obtain rfl := eh.trans (p_fs (j := 0) rfl _)
  refine ⟨by decide, ?_⟩
  rw [List.append_assoc]
  exact hp
abbrev rmZ : MC := .inl (6, [.inl 0, .inl 0, .inl 0, .inr none, .inr none, .inr none, .inr none, .inr none, .inr none, .inr none, .inl 0, .inr none, .inr none, .inr none, .inr none, .inr none, .inr none, .inr none, .inr none, .inl 0, .inr none, .inr none, .inr none, .inr none, .inl 0, .inr none])
abbrev rmC (N : Nat) : MC := .inl (6, [.inl 0, .inl 0, .inl 0, rr (N + 1), rr (N + 2), rr (N + 3), rr (N + 4), rr (N + 5), rr (N + 6), rr (N + 7), .inl 12, rr (N + 8), rr (N + 9), rr (N + 10), rr (N + 11), rr (N + 12), rr (N + 13), rr (N + 14), rr (N + 15), .inl 0, rr (N + 16), rr (N + 17), rr (N + 18), rr (N + 19), .inl 0, rr (N + 20)])
abbrev rmT (a b c : MC) : List MC := [aI 12, aI 12, aI 12, aI 120, a, b, c, aI 36, aI 36, aB 12, aI 4, aI 4, aI 12, aI 12, aI 12, aI 28800, aI 12, aI 9600, .inr (2, 9600, .inr (.inl (fun _ => 0))), aI 4]
set_option maxHeartbeats 8000000 in
theorem rm174 {Post : MH → Prop} {cs : List MC} {N : Nat} (hN : cs.length = N) (hp : Post (lh (cs ++ (rmC N :: rmT (a3 60 55 48) (a3 81 74 69) (a3 72 67 60))))) : wp_Rm_init_174 Post 20 48309 N 0 (lh (cs ++ (rmC N :: rmT (aI 3) (aI 3) (aI 3)))) := by
  refine ⟨4, ?_⟩
  show wb_Rm_init_174 _ _ _ _ _ _ _
  refine ⟨fun q => absurd q (by decide), fun _ => ⟨N + 5, a_gF hN (j := 0) rfl rfl, ⟨fun q => absurd rfl q, fun _ => ⟨_, _, a_gA hN (j := 5) rfl, by unfold vp_in; decide, fun h eh => ?_⟩⟩⟩⟩
  obtain rfl := eh.trans (a_ms hN (j := 5) (by show 5 < 21; decide) _)
  refine ⟨N + 6, a_gF hN (j := 0) rfl rfl, ⟨fun q => absurd rfl q, fun _ => ⟨_, _, a_gA hN (j := 6) rfl, by unfold vp_in; decide, fun h eh => ?_⟩⟩⟩
  obtain rfl := eh.trans (a_ms hN (j := 6) (by show 6 < 21; decide) _)
  refine ⟨N + 7, a_gF hN (j := 0) rfl rfl, ⟨fun q => absurd rfl q, fun _ => ⟨_, _, a_gA hN (j := 7) rfl, by unfold vp_in; decide, fun h eh => ?_⟩⟩⟩
  obtain rfl := eh.trans (a_ms hN (j := 7) (by show 7 < 21; decide) _)
  refine ⟨fun q => absurd q (by decide), fun _ => ⟨N + 5, a_gF hN (j := 0) rfl rfl, ⟨fun _ => ⟨fun q => absurd rfl q, fun _ => ⟨_, _, a_gA hN (j := 5) rfl, by unfold vp_in; decide, fun h eh => ?_⟩⟩, fun q => absurd q (by decide)⟩⟩⟩
  obtain rfl := eh.trans (a_ms hN (j := 5) (by show 5 < 21; decide) _)
  refine ⟨N + 6, a_gF hN (j := 0) rfl rfl, ⟨fun _ => ⟨fun q => absurd rfl q, fun _ => ⟨_, _, a_gA hN (j := 6) rfl, by unfold vp_in; decide, fun h eh => ?_⟩⟩, fun q => absurd q (by decide)⟩⟩
  obtain rfl := eh.trans (a_ms hN (j := 6) (by show 6 < 21; decide) _)
  refine ⟨N + 7, a_gF hN (j := 0) rfl rfl, ⟨fun _ => ⟨fun q => absurd rfl q, fun _ => ⟨_, _, a_gA hN (j := 7) rfl, by unfold vp_in; decide, fun h eh => ?_⟩⟩, fun q => absurd q (by decide)⟩⟩
  obtain rfl := eh.trans (a_ms hN (j := 7) (by show 7 < 21; decide) _)
  refine ⟨fun q => absurd q (by decide), fun _ => ⟨N + 5, a_gF hN (j := 0) rfl rfl, ⟨fun _ => ⟨fun _ => ⟨_, _, a_gA hN (j := 5) rfl, by unfold vp_in; decide, fun h eh => ?_⟩, fun q => absurd q (by decide)⟩, fun q => absurd q (by decide)⟩⟩⟩
  obtain rfl := eh.trans (a_ms hN (j := 5) (by show 5 < 21; decide) _)
  refine ⟨N + 6, a_gF hN (j := 0) rfl rfl, ⟨fun _ => ⟨fun _ => ⟨_, _, a_gA hN (j := 6) rfl, by unfold vp_in; decide, fun h eh => ?_⟩, fun q => absurd q (by decide)⟩, fun q => absurd q (by decide)⟩⟩
  obtain rfl := eh.trans (a_ms hN (j := 6) (by show 6 < 21; decide) _)
  refine ⟨N + 7, a_gF hN (j := 0) rfl rfl, ⟨fun _ => ⟨fun _ => ⟨_, _, a_gA hN (j := 7) rfl, by unfold vp_in; decide, fun h eh => ?_⟩, fun q => absurd q (by decide)⟩, fun q => absurd q (by decide)⟩⟩
  obtain rfl := eh.trans (a_ms hN (j := 7) (by show 7 < 21; decide) _)
  exact ⟨fun _ => ⟨by decide, hp⟩, fun q => absurd (by decide) q⟩
set_option maxHeartbeats 8000000 in
theorem sp_Rm_init {Post : MH → Prop} {cs : List MC} {N : Nat} (hN : cs.length = N) (hp : Post (lh (cs ++ (rmC N :: rmT (a3 60 55 48) (a3 81 74 69) (a3 72 67 60))))) : wp_Rm_init Post 0 0 N (lh (cs ++ [rmZ])) := by
  unfold wp_Rm_init
  refine ⟨by decide, fun k h ek eh => ?_⟩
  have ek2 : k = N + 1 := ek.trans (a_len hN _)
  have eh2 : h = lh (cs ++ [.inl (6, [.inl 0, .inl 0, .inl 0, .inr none, .inr none, .inr none, .inr none, .inr none, .inr none, .inr none, .inl 0, .inr none, .inr none, .inr none, .inr none, .inr none, .inr none, .inr none, .inr none, .inl 0, .inr none, .inr none, .inr none, .inr none, .inl 0, .inr none]), aI 12]) := by
    have eh3 := eh.trans (a_new _ _ _)
    exact eh3
  clear eh ek
  subst ek2 eh2
  refine ⟨⟨_, a_gF hN (j := 0) rfl rfl⟩, fun h eh => ?_⟩
  have eh2 : h = lh (cs ++ [.inl (6, [.inl 0, .inl 0, .inl 0, rr (N + 1), .inr none, .inr none, .inr none, .inr none, .inr none, .inr none, .inl 0, .inr none, .inr none, .inr none, .inr none, .inr none, .inr none, .inr none, .inr none, .inl 0, .inr none, .inr none, .inr none, .inr none, .inl 0, .inr none]), aI 12]) := by
    have eh3 := eh.trans (a_fs hN (j := 0) rfl _)
    exact eh3
  clear eh
  subst eh2
  refine ⟨by decide, fun k h ek eh => ?_⟩
  have ek2 : k = N + 2 := ek.trans (a_len hN _)
  have eh2 : h = lh (cs ++ [.inl (6, [.inl 0, .inl 0, .inl 0, rr (N + 1), .inr none, .inr none, .inr none, .inr none, .inr none, .inr none, .inl 0, .inr none, .inr none, .inr none, .inr none, .inr none, .inr none, .inr none, .inr none, .inl 0, .inr none, .inr none, .inr none, .inr none, .inl 0, .inr none]), aI 12, aI 12]) := by
    have eh3 := eh.trans (a_new _ _ _)
    exact eh3
  clear eh ek
  subst ek2 eh2
  refine ⟨⟨_, a_gF hN (j := 0) rfl rfl⟩, fun h eh => ?_⟩
  have eh2 : h = lh (cs ++ [.inl (6, [.inl 0, .inl 0, .inl 0, rr (N + 1), rr (N + 2), .inr none, .inr none, .inr none, .inr none, .inr none, .inl 0, .inr none, .inr none, .inr none, .inr none, .inr none, .inr none, .inr none, .inr none, .inl 0, .inr none, .inr none, .inr none, .inr none, .inl 0, .inr none]), aI 12, aI 12]) := by
    have eh3 := eh.trans (a_fs hN (j := 0) rfl _)
    exact eh3
  clear eh
  subst eh2
  refine ⟨by decide, fun k h ek eh => ?_⟩
  have ek2 : k = N + 3 := ek.trans (a_len hN _)
  have eh2 : h = lh (cs ++ [.inl (6, [.inl 0, .inl 0, .inl 0, rr (N + 1), rr (N + 2), .inr none, .inr none, .inr none, .inr none, .inr none, .inl 0, .inr none, .inr none, .inr none, .inr none, .inr none, .inr none, .inr none, .inr none, .inl 0, .inr none, .inr none, .inr none, .inr none, .inl 0, .inr none]), aI 12, aI 12, aI 12]) := by
    have eh3 := eh.trans (a_new _ _ _)
    exact eh3
  clear eh ek
  subst ek2 eh2
  refine ⟨⟨_, a_gF hN (j := 0) rfl rfl⟩, fun h eh => ?_⟩
  have eh2 : h = lh (cs ++ [.inl (6, [.inl 0, .inl 0, .inl 0, rr (N + 1), rr (N + 2), rr (N + 3), .inr none, .inr none, .inr none, .inr none, .inl 0, .inr none, .inr none, .inr none, .inr none, .inr none, .inr none, .inr none, .inr none, .inl 0, .inr none, .inr none, .inr none, .inr none, .inl 0, .inr none]), aI 12, aI 12, aI 12]) := by
    have eh3 := eh.trans (a_fs hN (j := 0) rfl _)
    exact eh3
  clear eh
  subst eh2
  refine ⟨by decide, fun k h ek eh => ?_⟩
  have ek2 : k = N + 4 := ek.trans (a_len hN _)
  have eh2 : h = lh (cs ++ [.inl (6, [.inl 0, .inl 0, .inl 0, rr (N + 1), rr (N + 2), rr (N + 3), .inr none, .inr none, .inr none, .inr none, .inl 0, .inr none, .inr none, .inr none, .inr none, .inr none, .inr none, .inr none, .inr none, .inl 0, .inr none, .inr none, .inr none, .inr none, .inl 0, .inr none]), aI 12, aI 12, aI 12, aI 120]) := by
    have eh3 := eh.trans (a_new _ _ _)
    exact eh3
  clear eh ek
  subst ek2 eh2
  refine ⟨⟨_, a_gF hN (j := 0) rfl rfl⟩, fun h eh => ?_⟩
  have eh2 : h = lh (cs ++ [.inl (6, [.inl 0, .inl 0, .inl 0, rr (N + 1), rr (N + 2), rr (N + 3), rr (N + 4), .inr none, .inr none, .inr none, .inl 0, .inr none, .inr none, .inr none, .inr none, .inr none, .inr none, .inr none, .inr none, .inl 0, .inr none, .inr none, .inr none, .inr none, .inl 0, .inr none]), aI 12, aI 12, aI 12, aI 120]) := by
    have eh3 := eh.trans (a_fs hN (j := 0) rfl _)
    exact eh3
  clear eh
  subst eh2
  refine ⟨by decide, fun k h ek eh => ?_⟩
  have ek2 : k = N + 5 := ek.trans (a_len hN _)
  have eh2 : h = lh (cs ++ [.inl (6, [.inl 0, .inl 0, .inl 0, rr (N + 1), rr (N + 2), rr (N + 3), rr (N + 4), .inr none, .inr none, .inr none, .inl 0, .inr none, .inr none, .inr none, .inr none, .inr none, .inr none, .inr none, .inr none, .inl 0, .inr none, .inr none, .inr none, .inr none, .inl 0, .inr none]), aI 12, aI 12, aI 12, aI 120, aI 3]) := by
    have eh3 := eh.trans (a_new _ _ _)
    exact eh3
  clear eh ek
  subst ek2 eh2
  refine ⟨⟨_, a_gF hN (j := 0) rfl rfl⟩, fun h eh => ?_⟩
  have eh2 : h = lh (cs ++ [.inl (6, [.inl 0, .inl 0, .inl 0, rr (N + 1), rr (N + 2), rr (N + 3), rr (N + 4), rr (N + 5), .inr none, .inr none, .inl 0, .inr none, .inr none, .inr none, .inr none, .inr none, .inr none, .inr none, .inr none, .inl 0, .inr none, .inr none, .inr none, .inr none, .inl 0, .inr none]), aI 12, aI 12, aI 12, aI 120, aI 3]) := by
    have eh3 := eh.trans (a_fs hN (j := 0) rfl _)
    exact eh3
  clear eh
  subst eh2
  refine ⟨by decide, fun k h ek eh => ?_⟩
  have ek2 : k = N + 6 := ek.trans (a_len hN _)
  have eh2 : h = lh (cs ++ [.inl (6, [.inl 0, .inl 0, .inl 0, rr (N + 1), rr (N + 2), rr (N + 3), rr (N + 4), rr (N + 5), .inr none, .inr none, .inl 0, .inr none, .inr none, .inr none, .inr none, .inr none, .inr none, .inr none, .inr none, .inl 0, .inr none, .inr none, .inr none, .inr none, .inl 0, .inr none]), aI 12, aI 12, aI 12, aI 120, aI 3, aI 3]) := by
    have eh3 := eh.trans (a_new _ _ _)
    exact eh3
  clear eh ek
  subst ek2 eh2
  refine ⟨⟨_, a_gF hN (j := 0) rfl rfl⟩, fun h eh => ?_⟩
  have eh2 : h = lh (cs ++ [.inl (6, [.inl 0, .inl 0, .inl 0, rr (N + 1), rr (N + 2), rr (N + 3), rr (N + 4), rr (N + 5), rr (N + 6), .inr none, .inl 0, .inr none, .inr none, .inr none, .inr none, .inr none, .inr none, .inr none, .inr none, .inl 0, .inr none, .inr none, .inr none, .inr none, .inl 0, .inr none]), aI 12, aI 12, aI 12, aI 120, aI 3, aI 3]) := by
    have eh3 := eh.trans (a_fs hN (j := 0) rfl _)
    exact eh3
  clear eh
  subst eh2
  refine ⟨by decide, fun k h ek eh => ?_⟩
  have ek2 : k = N + 7 := ek.trans (a_len hN _)
  have eh2 : h = lh (cs ++ [.inl (6, [.inl 0, .inl 0, .inl 0, rr (N + 1), rr (N + 2), rr (N + 3), rr (N + 4), rr (N + 5), rr (N + 6), .inr none, .inl 0, .inr none, .inr none, .inr none, .inr none, .inr none, .inr none, .inr none, .inr none, .inl 0, .inr none, .inr none, .inr none, .inr none, .inl 0, .inr none]), aI 12, aI 12, aI 12, aI 120, aI 3, aI 3, aI 3]) := by
    have eh3 := eh.trans (a_new _ _ _)
    exact eh3
  clear eh ek
  subst ek2 eh2
  refine ⟨⟨_, a_gF hN (j := 0) rfl rfl⟩, fun h eh => ?_⟩
  have eh2 : h = lh (cs ++ [.inl (6, [.inl 0, .inl 0, .inl 0, rr (N + 1), rr (N + 2), rr (N + 3), rr (N + 4), rr (N + 5), rr (N + 6), rr (N + 7), .inl 0, .inr none, .inr none, .inr none, .inr none, .inr none, .inr none, .inr none, .inr none, .inl 0, .inr none, .inr none, .inr none, .inr none, .inl 0, .inr none]), aI 12, aI 12, aI 12, aI 120, aI 3, aI 3, aI 3]) := by
    have eh3 := eh.trans (a_fs hN (j := 0) rfl _)
    exact eh3
  clear eh
  subst eh2
  refine ⟨⟨_, a_gF hN (j := 0) rfl rfl⟩, fun h eh => ?_⟩
  have eh2 : h = lh (cs ++ [.inl (6, [.inl 0, .inl 0, .inl 0, rr (N + 1), rr (N + 2), rr (N + 3), rr (N + 4), rr (N + 5), rr (N + 6), rr (N + 7), .inl 12, .inr none, .inr none, .inr none, .inr none, .inr none, .inr none, .inr none, .inr none, .inl 0, .inr none, .inr none, .inr none, .inr none, .inl 0, .inr none]), aI 12, aI 12, aI 12, aI 120, aI 3, aI 3, aI 3]) := by
    have eh3 := eh.trans (a_fs hN (j := 0) rfl _)
    exact eh3
  clear eh
  subst eh2
  refine ⟨by decide, fun k h ek eh => ?_⟩
  have ek2 : k = N + 8 := ek.trans (a_len hN _)
  have eh2 : h = lh (cs ++ [.inl (6, [.inl 0, .inl 0, .inl 0, rr (N + 1), rr (N + 2), rr (N + 3), rr (N + 4), rr (N + 5), rr (N + 6), rr (N + 7), .inl 12, .inr none, .inr none, .inr none, .inr none, .inr none, .inr none, .inr none, .inr none, .inl 0, .inr none, .inr none, .inr none, .inr none, .inl 0, .inr none]), aI 12, aI 12, aI 12, aI 120, aI 3, aI 3, aI 3, aI 36]) := by
    have eh3 := eh.trans (a_new _ _ _)
    exact eh3
  clear eh ek
  subst ek2 eh2
  refine ⟨⟨_, a_gF hN (j := 0) rfl rfl⟩, fun h eh => ?_⟩
  have eh2 : h = lh (cs ++ [.inl (6, [.inl 0, .inl 0, .inl 0, rr (N + 1), rr (N + 2), rr (N + 3), rr (N + 4), rr (N + 5), rr (N + 6), rr (N + 7), .inl 12, rr (N + 8), .inr none, .inr none, .inr none, .inr none, .inr none, .inr none, .inr none, .inl 0, .inr none, .inr none, .inr none, .inr none, .inl 0, .inr none]), aI 12, aI 12, aI 12, aI 120, aI 3, aI 3, aI 3, aI 36]) := by
    have eh3 := eh.trans (a_fs hN (j := 0) rfl _)
    exact eh3
  clear eh
  subst eh2
  refine ⟨by decide, fun k h ek eh => ?_⟩
  have ek2 : k = N + 9 := ek.trans (a_len hN _)
  have eh2 : h = lh (cs ++ [.inl (6, [.inl 0, .inl 0, .inl 0, rr (N + 1), rr (N + 2), rr (N + 3), rr (N + 4), rr (N + 5), rr (N + 6), rr (N + 7), .inl 12, rr (N + 8), .inr none, .inr none, .inr none, .inr none, .inr none, .inr none, .inr none, .inl 0, .inr none, .inr none, .inr none, .inr none, .inl 0, .inr none]), aI 12, aI 12, aI 12, aI 120, aI 3, aI 3, aI 3, aI 36, aI 36]) := by
    have eh3 := eh.trans (a_new _ _ _)
    exact eh3
  clear eh ek
  subst ek2 eh2
  refine ⟨⟨_, a_gF hN (j := 0) rfl rfl⟩, fun h eh => ?_⟩
  have eh2 : h = lh (cs ++ [.inl (6, [.inl 0, .inl 0, .inl 0, rr (N + 1), rr (N + 2), rr (N + 3), rr (N + 4), rr (N + 5), rr (N + 6), rr (N + 7), .inl 12, rr (N + 8), rr (N + 9), .inr none, .inr none, .inr none, .inr none, .inr none, .inr none, .inl 0, .inr none, .inr none, .inr none, .inr none, .inl 0, .inr none]), aI 12, aI 12, aI 12, aI 120, aI 3, aI 3, aI 3, aI 36, aI 36]) := by
    have eh3 := eh.trans (a_fs hN (j := 0) rfl _)
    exact eh3
  clear eh
  subst eh2
  refine ⟨by decide, fun k h ek eh => ?_⟩
  have ek2 : k = N + 10 := ek.trans (a_len hN _)
  have eh2 : h = lh (cs ++ [.inl (6, [.inl 0, .inl 0, .inl 0, rr (N + 1), rr (N + 2), rr (N + 3), rr (N + 4), rr (N + 5), rr (N + 6), rr (N + 7), .inl 12, rr (N + 8), rr (N + 9), .inr none, .inr none, .inr none, .inr none, .inr none, .inr none, .inl 0, .inr none, .inr none, .inr none, .inr none, .inl 0, .inr none]), aI 12, aI 12, aI 12, aI 120, aI 3, aI 3, aI 3, aI 36, aI 36, aB 12]) := by
    have eh3 := eh.trans (a_new _ _ _)
    exact eh3
  clear eh ek
  subst ek2 eh2
  refine ⟨⟨_, a_gF hN (j := 0) rfl rfl⟩, fun h eh => ?_⟩
  have eh2 : h = lh (cs ++ [.inl (6, [.inl 0, .inl 0, .inl 0, rr (N + 1), rr (N + 2), rr (N + 3), rr (N + 4), rr (N + 5), rr (N + 6), rr (N + 7), .inl 12, rr (N + 8), rr (N + 9), rr (N + 10), .inr none, .inr none, .inr none, .inr none, .inr none, .inl 0, .inr none, .inr none, .inr none, .inr none, .inl 0, .inr none]), aI 12, aI 12, aI 12, aI 120, aI 3, aI 3, aI 3, aI 36, aI 36, aB 12]) := by
    have eh3 := eh.trans (a_fs hN (j := 0) rfl _)
    exact eh3
  clear eh
  subst eh2
  refine ⟨by decide, fun k h ek eh => ?_⟩
  have ek2 : k = N + 11 := ek.trans (a_len hN _)
  have eh2 : h = lh (cs ++ [.inl (6, [.inl 0, .inl 0, .inl 0, rr (N + 1), rr (N + 2), rr (N + 3), rr (N + 4), rr (N + 5), rr (N + 6), rr (N + 7), .inl 12, rr (N + 8), rr (N + 9), rr (N + 10), .inr none, .inr none, .inr none, .inr none, .inr none, .inl 0, .inr none, .inr none, .inr none, .inr none, .inl 0, .inr none]), aI 12, aI 12, aI 12, aI 120, aI 3, aI 3, aI 3, aI 36, aI 36, aB 12, aI 4]) := by
    have eh3 := eh.trans (a_new _ _ _)
    exact eh3
  clear eh ek
  subst ek2 eh2
  refine ⟨⟨_, a_gF hN (j := 0) rfl rfl⟩, fun h eh => ?_⟩
  have eh2 : h = lh (cs ++ [.inl (6, [.inl 0, .inl 0, .inl 0, rr (N + 1), rr (N + 2), rr (N + 3), rr (N + 4), rr (N + 5), rr (N + 6), rr (N + 7), .inl 12, rr (N + 8), rr (N + 9), rr (N + 10), rr (N + 11), .inr none, .inr none, .inr none, .inr none, .inl 0, .inr none, .inr none, .inr none, .inr none, .inl 0, .inr none]), aI 12, aI 12, aI 12, aI 120, aI 3, aI 3, aI 3, aI 36, aI 36, aB 12, aI 4]) := by
    have eh3 := eh.trans (a_fs hN (j := 0) rfl _)
    exact eh3
  clear eh
  subst eh2
  refine ⟨by decide, fun k h ek eh => ?_⟩
  have ek2 : k = N + 12 := ek.trans (a_len hN _)
  have eh2 : h = lh (cs ++ [.inl (6, [.inl 0, .inl 0, .inl 0, rr (N + 1), rr (N + 2), rr (N + 3), rr (N + 4), rr (N + 5), rr (N + 6), rr (N + 7), .inl 12, rr (N + 8), rr (N + 9), rr (N + 10), rr (N + 11), .inr none, .inr none, .inr none, .inr none, .inl 0, .inr none, .inr none, .inr none, .inr none, .inl 0, .inr none]), aI 12, aI 12, aI 12, aI 120, aI 3, aI 3, aI 3, aI 36, aI 36, aB 12, aI 4, aI 4]) := by
    have eh3 := eh.trans (a_new _ _ _)
    exact eh3
  clear eh ek
  subst ek2 eh2
  refine ⟨⟨_, a_gF hN (j := 0) rfl rfl⟩, fun h eh => ?_⟩
  have eh2 : h = lh (cs ++ [.inl (6, [.inl 0, .inl 0, .inl 0, rr (N + 1), rr (N + 2), rr (N + 3), rr (N + 4), rr (N + 5), rr (N + 6), rr (N + 7), .inl 12, rr (N + 8), rr (N + 9), rr (N + 10), rr (N + 11), rr (N + 12), .inr none, .inr none, .inr none, .inl 0, .inr none, .inr none, .inr none, .inr none, .inl 0, .inr none]), aI 12, aI 12, aI 12, aI 120, aI 3, aI 3, aI 3, aI 36, aI 36, aB 12, aI 4, aI 4]) := by
    have eh3 := eh.trans (a_fs hN (j := 0) rfl _)
    exact eh3
  clear eh
  subst eh2
  refine ⟨by decide, fun k h ek eh => ?_⟩
  have ek2 : k = N + 13 := ek.trans (a_len hN _)
  have eh2 : h = lh (cs ++ [.inl (6, [.inl 0, .inl 0, .inl 0, rr (N + 1), rr (N + 2), rr (N + 3), rr (N + 4), rr (N + 5), rr (N + 6), rr (N + 7), .inl 12, rr (N + 8), rr (N + 9), rr (N + 10), rr (N + 11), rr (N + 12), .inr none, .inr none, .inr none, .inl 0, .inr none, .inr none, .inr none, .inr none, .inl 0, .inr none]), aI 12, aI 12, aI 12, aI 120, aI 3, aI 3, aI 3, aI 36, aI 36, aB 12, aI 4, aI 4, aI 12]) := by
    have eh3 := eh.trans (a_new _ _ _)
    exact eh3
  clear eh ek
  subst ek2 eh2
  refine ⟨⟨_, a_gF hN (j := 0) rfl rfl⟩, fun h eh => ?_⟩
  have eh2 : h = lh (cs ++ [.inl (6, [.inl 0, .inl 0, .inl 0, rr (N + 1), rr (N + 2), rr (N + 3), rr (N + 4), rr (N + 5), rr (N + 6), rr (N + 7), .inl 12, rr (N + 8), rr (N + 9), rr (N + 10), rr (N + 11), rr (N + 12), rr (N + 13), .inr none, .inr none, .inl 0, .inr none, .inr none, .inr none, .inr none, .inl 0, .inr none]), aI 12, aI 12, aI 12, aI 120, aI 3, aI 3, aI 3, aI 36, aI 36, aB 12, aI 4, aI 4, aI 12]) := by
    have eh3 := eh.trans (a_fs hN (j := 0) rfl _)
    exact eh3
  clear eh
  subst eh2
  refine ⟨by decide, fun k h ek eh => ?_⟩
  have ek2 : k = N + 14 := ek.trans (a_len hN _)
  have eh2 : h = lh (cs ++ [.inl (6, [.inl 0, .inl 0, .inl 0, rr (N + 1), rr (N + 2), rr (N + 3), rr (N + 4), rr (N + 5), rr (N + 6), rr (N + 7), .inl 12, rr (N + 8), rr (N + 9), rr (N + 10), rr (N + 11), rr (N + 12), rr (N + 13), .inr none, .inr none, .inl 0, .inr none, .inr none, .inr none, .inr none, .inl 0, .inr none]), aI 12, aI 12, aI 12, aI 120, aI 3, aI 3, aI 3, aI 36, aI 36, aB 12, aI 4, aI 4, aI 12, aI 12]) := by
    have eh3 := eh.trans (a_new _ _ _)
    exact eh3
  clear eh ek
  subst ek2 eh2
  refine ⟨⟨_, a_gF hN (j := 0) rfl rfl⟩, fun h eh => ?_⟩
  have eh2 : h = lh (cs ++ [.inl (6, [.inl 0, .inl 0, .inl 0, rr (N + 1), rr (N + 2), rr (N + 3), rr (N + 4), rr (N + 5), rr (N + 6), rr (N + 7), .inl 12, rr (N + 8), rr (N + 9), rr (N + 10), rr (N + 11), rr (N + 12), rr (N + 13), rr (N + 14), .inr none, .inl 0, .inr none, .inr none, .inr none, .inr none, .inl 0, .inr none]), aI 12, aI 12, aI 12, aI 120, aI 3, aI 3, aI 3, aI 36, aI 36, aB 12, aI 4, aI 4, aI 12, aI 12]) := by
    have eh3 := eh.trans (a_fs hN (j := 0) rfl _)
    exact eh3
  clear eh
  subst eh2
  refine ⟨by decide, fun k h ek eh => ?_⟩
  have ek2 : k = N + 15 := ek.trans (a_len hN _)
  have eh2 : h = lh (cs ++ [.inl (6, [.inl 0, .inl 0, .inl 0, rr (N + 1), rr (N + 2), rr (N + 3), rr (N + 4), rr (N + 5), rr (N + 6), rr (N + 7), .inl 12, rr (N + 8), rr (N + 9), rr (N + 10), rr (N + 11), rr (N + 12), rr (N + 13), rr (N + 14), .inr none, .inl 0, .inr none, .inr none, .inr none, .inr none, .inl 0, .inr none]), aI 12, aI 12, aI 12, aI 120, aI 3, aI 3, aI 3, aI 36, aI 36, aB 12, aI 4, aI 4, aI 12, aI 12, aI 12]) := by
    have eh3 := eh.trans (a_new _ _ _)
    exact eh3
  clear eh ek
  subst ek2 eh2
  refine ⟨⟨_, a_gF hN (j := 0) rfl rfl⟩, fun h eh => ?_⟩
  have eh2 : h = lh (cs ++ [.inl (6, [.inl 0, .inl 0, .inl 0, rr (N + 1), rr (N + 2), rr (N + 3), rr (N + 4), rr (N + 5), rr (N + 6), rr (N + 7), .inl 12, rr (N + 8), rr (N + 9), rr (N + 10), rr (N + 11), rr (N + 12), rr (N + 13), rr (N + 14), rr (N + 15), .inl 0, .inr none, .inr none, .inr none, .inr none, .inl 0, .inr none]), aI 12, aI 12, aI 12, aI 120, aI 3, aI 3, aI 3, aI 36, aI 36, aB 12, aI 4, aI 4, aI 12, aI 12, aI 12]) := by
    have eh3 := eh.trans (a_fs hN (j := 0) rfl _)
    exact eh3
  clear eh
  subst eh2
  refine ⟨by decide, fun k h ek eh => ?_⟩
  have ek2 : k = N + 16 := ek.trans (a_len hN _)
  have eh2 : h = lh (cs ++ [.inl (6, [.inl 0, .inl 0, .inl 0, rr (N + 1), rr (N + 2), rr (N + 3), rr (N + 4), rr (N + 5), rr (N + 6), rr (N + 7), .inl 12, rr (N + 8), rr (N + 9), rr (N + 10), rr (N + 11), rr (N + 12), rr (N + 13), rr (N + 14), rr (N + 15), .inl 0, .inr none, .inr none, .inr none, .inr none, .inl 0, .inr none]), aI 12, aI 12, aI 12, aI 120, aI 3, aI 3, aI 3, aI 36, aI 36, aB 12, aI 4, aI 4, aI 12, aI 12, aI 12, aI 28800]) := by
    have eh3 := eh.trans (a_new _ _ _)
    exact eh3
  clear eh ek
  subst ek2 eh2
  refine ⟨⟨_, a_gF hN (j := 0) rfl rfl⟩, fun h eh => ?_⟩
  have eh2 : h = lh (cs ++ [.inl (6, [.inl 0, .inl 0, .inl 0, rr (N + 1), rr (N + 2), rr (N + 3), rr (N + 4), rr (N + 5), rr (N + 6), rr (N + 7), .inl 12, rr (N + 8), rr (N + 9), rr (N + 10), rr (N + 11), rr (N + 12), rr (N + 13), rr (N + 14), rr (N + 15), .inl 0, rr (N + 16), .inr none, .inr none, .inr none, .inl 0, .inr none]), aI 12, aI 12, aI 12, aI 120, aI 3, aI 3, aI 3, aI 36, aI 36, aB 12, aI 4, aI 4, aI 12, aI 12, aI 12, aI 28800]) := by
    have eh3 := eh.trans (a_fs hN (j := 0) rfl _)
    exact eh3
  clear eh
  subst eh2
  refine ⟨by decide, fun k h ek eh => ?_⟩
  have ek2 : k = N + 17 := ek.trans (a_len hN _)
  have eh2 : h = lh (cs ++ [.inl (6, [.inl 0, .inl 0, .inl 0, rr (N + 1), rr (N + 2), rr (N + 3), rr (N + 4), rr (N + 5), rr (N + 6), rr (N + 7), .inl 12, rr (N + 8), rr (N + 9), rr (N + 10), rr (N + 11), rr (N + 12), rr (N + 13), rr (N + 14), rr (N + 15), .inl 0, rr (N + 16), .inr none, .inr none, .inr none, .inl 0, .inr none]), aI 12, aI 12, aI 12, aI 120, aI 3, aI 3, aI 3, aI 36, aI 36, aB 12, aI 4, aI 4, aI 12, aI 12, aI 12, aI 28800, aI 12]) := by
    have eh3 := eh.trans (a_new _ _ _)
    exact eh3
  clear eh ek
  subst ek2 eh2
  refine ⟨⟨_, a_gF hN (j := 0) rfl rfl⟩, fun h eh => ?_⟩
  have eh2 : h = lh (cs ++ [.inl (6, [.inl 0, .inl 0, .inl 0, rr (N + 1), rr (N + 2), rr (N + 3), rr (N + 4), rr (N + 5), rr (N + 6), rr (N + 7), .inl 12, rr (N + 8), rr (N + 9), rr (N + 10), rr (N + 11), rr (N + 12), rr (N + 13), rr (N + 14), rr (N + 15), .inl 0, rr (N + 16), rr (N + 17), .inr none, .inr none, .inl 0, .inr none]), aI 12, aI 12, aI 12, aI 120, aI 3, aI 3, aI 3, aI 36, aI 36, aB 12, aI 4, aI 4, aI 12, aI 12, aI 12, aI 28800, aI 12]) := by
    have eh3 := eh.trans (a_fs hN (j := 0) rfl _)
    exact eh3
  clear eh
  subst eh2
  refine ⟨by decide, fun k h ek eh => ?_⟩
  have ek2 : k = N + 18 := ek.trans (a_len hN _)
  have eh2 : h = lh (cs ++ [.inl (6, [.inl 0, .inl 0, .inl 0, rr (N + 1), rr (N + 2), rr (N + 3), rr (N + 4), rr (N + 5), rr (N + 6), rr (N + 7), .inl 12, rr (N + 8), rr (N + 9), rr (N + 10), rr (N + 11), rr (N + 12), rr (N + 13), rr (N + 14), rr (N + 15), .inl 0, rr (N + 16), rr (N + 17), .inr none, .inr none, .inl 0, .inr none]), aI 12, aI 12, aI 12, aI 120, aI 3, aI 3, aI 3, aI 36, aI 36, aB 12, aI 4, aI 4, aI 12, aI 12, aI 12, aI 28800, aI 12, aI 9600]) := by
    have eh3 := eh.trans (a_new _ _ _)
    exact eh3
  clear eh ek
  subst ek2 eh2
  refine ⟨⟨_, a_gF hN (j := 0) rfl rfl⟩, fun h eh => ?_⟩
  have eh2 : h = lh (cs ++ [.inl (6, [.inl 0, .inl 0, .inl 0, rr (N + 1), rr (N + 2), rr (N + 3), rr (N + 4), rr (N + 5), rr (N + 6), rr (N + 7), .inl 12, rr (N + 8), rr (N + 9), rr (N + 10), rr (N + 11), rr (N + 12), rr (N + 13), rr (N + 14), rr (N + 15), .inl 0, rr (N + 16), rr (N + 17), rr (N + 18), .inr none, .inl 0, .inr none]), aI 12, aI 12, aI 12, aI 120, aI 3, aI 3, aI 3, aI 36, aI 36, aB 12, aI 4, aI 4, aI 12, aI 12, aI 12, aI 28800, aI 12, aI 9600]) := by
    have eh3 := eh.trans (a_fs hN (j := 0) rfl _)
    exact eh3
  clear eh
  subst eh2
  refine ⟨by decide, fun k h ek eh => ?_⟩
  have ek2 : k = N + 19 := ek.trans (a_len hN _)
  have eh2 : h = lh (cs ++ [.inl (6, [.inl 0, .inl 0, .inl 0, rr (N + 1), rr (N + 2), rr (N + 3), rr (N + 4), rr (N + 5), rr (N + 6), rr (N + 7), .inl 12, rr (N + 8), rr (N + 9), rr (N + 10), rr (N + 11), rr (N + 12), rr (N + 13), rr (N + 14), rr (N + 15), .inl 0, rr (N + 16), rr (N + 17), rr (N + 18), .inr none, .inl 0, .inr none]), aI 12, aI 12, aI 12, aI 120, aI 3, aI 3, aI 3, aI 36, aI 36, aB 12, aI 4, aI 4, aI 12, aI 12, aI 12, aI 28800, aI 12, aI 9600, .inr (2, 9600, .inr (.inl (fun _ => 0)))]) := by
    have eh3 := eh.trans (a_new _ _ _)
    exact eh3
  clear eh ek
  subst ek2 eh2
  refine ⟨⟨_, a_gF hN (j := 0) rfl rfl⟩, fun h eh => ?_⟩
  have eh2 : h = lh (cs ++ [.inl (6, [.inl 0, .inl 0, .inl 0, rr (N + 1), rr (N + 2), rr (N + 3), rr (N + 4), rr (N + 5), rr (N + 6), rr (N + 7), .inl 12, rr (N + 8), rr (N + 9), rr (N + 10), rr (N + 11), rr (N + 12), rr (N + 13), rr (N + 14), rr (N + 15), .inl 0, rr (N + 16), rr (N + 17), rr (N + 18), rr (N + 19), .inl 0, .inr none]), aI 12, aI 12, aI 12, aI 120, aI 3, aI 3, aI 3, aI 36, aI 36, aB 12, aI 4, aI 4, aI 12, aI 12, aI 12, aI 28800, aI 12, aI 9600, .inr (2, 9600, .inr (.inl (fun _ => 0)))]) := by
    have eh3 := eh.trans (a_fs hN (j := 0) rfl _)
    exact eh3
  clear eh
  subst eh2
  refine ⟨by decide, fun k h ek eh => ?_⟩
  have ek2 : k = N + 20 := ek.trans (a_len hN _)
  have eh2 : h = lh (cs ++ [.inl (6, [.inl 0, .inl 0, .inl 0, rr (N + 1), rr (N + 2), rr (N + 3), rr (N + 4), rr (N + 5), rr (N + 6), rr (N + 7), .inl 12, rr (N + 8), rr (N + 9), rr (N + 10), rr (N + 11), rr (N + 12), rr (N + 13), rr (N + 14), rr (N + 15), .inl 0, rr (N + 16), rr (N + 17), rr (N + 18), rr (N + 19), .inl 0, .inr none]), aI 12, aI 12, aI 12, aI 120, aI 3, aI 3, aI 3, aI 36, aI 36, aB 12, aI 4, aI 4, aI 12, aI 12, aI 12, aI 28800, aI 12, aI 9600, .inr (2, 9600, .inr (.inl (fun _ => 0))), aI 4]) := by
    have eh3 := eh.trans (a_new _ _ _)
    exact eh3
  clear eh ek
  subst ek2 eh2
  refine ⟨⟨_, a_gF hN (j := 0) rfl rfl⟩, fun h eh => ?_⟩
  have eh2 : h = lh (cs ++ [.inl (6, [.inl 0, .inl 0, .inl 0, rr (N + 1), rr (N + 2), rr (N + 3), rr (N + 4), rr (N + 5), rr (N + 6), rr (N + 7), .inl 12, rr (N + 8), rr (N + 9), rr (N + 10), rr (N + 11), rr (N + 12), rr (N + 13), rr (N + 14), rr (N + 15), .inl 0, rr (N + 16), rr (N + 17), rr (N + 18), rr (N + 19), .inl 0, rr (N + 20)]), aI 12, aI 12, aI 12, aI 120, aI 3, aI 3, aI 3, aI 36, aI 36, aB 12, aI 4, aI 4, aI 12, aI 12, aI 12, aI 28800, aI 12, aI 9600, .inr (2, 9600, .inr (.inl (fun _ => 0))), aI 4]) := by
    have eh3 := eh.trans (a_fs hN (j := 0) rfl _)
    exact eh3
  clear eh
  subst eh2
  refine ⟨⟨_, a_gF hN (j := 0) rfl rfl⟩, fun h eh => ?_⟩
  have eh2 : h = lh (cs ++ [.inl (6, [.inl 0, .inl 0, .inl 0, rr (N + 1), rr (N + 2), rr (N + 3), rr (N + 4), rr (N + 5), rr (N + 6), rr (N + 7), .inl 12, rr (N + 8), rr (N + 9), rr (N + 10), rr (N + 11), rr (N + 12), rr (N + 13), rr (N + 14), rr (N + 15), .inl 0, rr (N + 16), rr (N + 17), rr (N + 18), rr (N + 19), .inl 0, rr (N + 20)]), aI 12, aI 12, aI 12, aI 120, aI 3, aI 3, aI 3, aI 36, aI 36, aB 12, aI 4, aI 4, aI 12, aI 12, aI 12, aI 28800, aI 12, aI 9600, .inr (2, 9600, .inr (.inl (fun _ => 0))), aI 4]) := by
    have eh3 := eh.trans (a_fs hN (j := 0) rfl _)
    exact eh3
  clear eh
  subst eh2
  exact rm174 hN hp
