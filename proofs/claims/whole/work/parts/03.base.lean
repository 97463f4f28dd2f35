abbrev MV : Type := Int32 ⊕ Option Nat
abbrev MA : Type := Nat × ((Nat → Int32) ⊕ (Nat → Int64) ⊕ (Nat → Option Nat))
abbrev MC : Type := (Nat × List MV) ⊕ (Nat × MA)
abbrev MH : Type := Nat × (Nat → MC)
abbrev mG : Type := va_G × (Nat → ClassId) × (Nat → Nat) × Nat
abbrev m_b (G : mG) : Nat := G.2.2.2
abbrev m_s (G : mG) (t : Nat) : Nat := G.2.2.1 t
def m_r (b : Nat) (r : Option Nat) : Option Nat := r.map (fun k => b + k)
def trV (b : Nat) (x : MV) : Value := match x with
  | .inl i => .int i
  | .inr r => va_rf (m_r b r)
def trA (b : Nat) (a : MA) : vp_A := match a with
  | (n, .inl f) => (n, .inl f)
  | (n, .inr (.inl f)) => (n, .inr (.inl f))
  | (n, .inr (.inr f)) => (n, .inr (.inr (.inr (.inr (fun j => m_r b (f j))))))
def trC (b : Nat) (cA : Nat → ClassId) (x : MC) : va_E := match x with
  | .inl o => .inr (o.1, o.2.map (trV b))
  | .inr a => .inl (cA a.1, trA b a.2)
def wl (G : mG) (h : MH) : va_W := (List.range h.1).map (fun k => (m_b G + k, trC (m_b G) G.2.1 (h.2 k)))
def mA (G : mG) : Nat → Prop := fun q => m_b G ≤ q
def gF (h : MH) (k ci j : Nat) : Option MV := if k < h.1 then (match h.2 k with | .inl o => if o.1 = ci then o.2[j]? else none | .inr _ => none) else none
def gC (h : MH) (k : Nat) : Option Nat := if k < h.1 then (match h.2 k with | .inl o => some o.1 | .inr _ => none) else none
def gX (h : MH) (k t : Nat) : Option MA := if k < h.1 then (match h.2 k with | .inl _ => none | .inr a => if a.1 = t then some a.2 else none) else none
def gA (h : MH) (k t : Nat) : Option (Nat × (Nat → Int32)) := match gX h k t with | some (n, .inl f) => some (n, f) | _ => none
def gL (h : MH) (k t : Nat) : Option (Nat × (Nat → Int64)) := match gX h k t with | some (n, .inr (.inl f)) => some (n, f) | _ => none
def gR (h : MH) (k t : Nat) : Option (Nat × (Nat → Option Nat)) := match gX h k t with | some (n, .inr (.inr f)) => some (n, f) | _ => none
def mset (h : MH) (k : Nat) (x : MC) : MH := (h.1, va_up h.2 k x)
def mnew (h : MH) (x : MC) : MH := (h.1 + 1, va_up h.2 h.1 x)
def fset (h : MH) (k j : Nat) (x : MV) : MH := match h.2 k with
  | .inl o => mset h k (.inl (o.1, o.2.set j x))
  | .inr _ => h
theorem gF_spec {h : MH} {k ci j : Nat} {x : MV} (e : gF h k ci j = some x) : k < h.1 ∧ ∃ fs : List MV, h.2 k = .inl (ci, fs) ∧ fs[j]? = some x := by
  unfold gF at e
  split at e
  · rename_i hk
    refine ⟨hk, ?_⟩
    split at e
    · rename_i o ho
      split at e
      · rename_i hc
        exact ⟨o.2, by rw [ho, ← hc], e⟩
      · cases e
    · cases e
  · cases e
theorem gC_spec {h : MH} {k ci : Nat} (e : gC h k = some ci) : k < h.1 ∧ ∃ fs : List MV, h.2 k = .inl (ci, fs) := by
  unfold gC at e
  split at e
  · rename_i hk
    refine ⟨hk, ?_⟩
    split at e
    · rename_i o ho
      cases e
      exact ⟨o.2, ho⟩
    · cases e
  · cases e
theorem gX_spec {h : MH} {k t : Nat} {a : MA} (e : gX h k t = some a) : k < h.1 ∧ h.2 k = .inr (t, a) := by
  unfold gX at e
  split at e
  · rename_i hk
    refine ⟨hk, ?_⟩
    split at e
    · cases e
    · rename_i a' ho
      split at e
      · rename_i hc
        cases e
        rw [ho, ← hc]
      · cases e
  · cases e
theorem gA_spec {h : MH} {k t n : Nat} {f : Nat → Int32} (e : gA h k t = some (n, f)) : k < h.1 ∧ h.2 k = .inr (t, n, .inl f) := by
  unfold gA at e
  split at e
  · rename_i n' f' he
    cases e
    exact gX_spec he
  · cases e
theorem gL_spec {h : MH} {k t n : Nat} {f : Nat → Int64} (e : gL h k t = some (n, f)) : k < h.1 ∧ h.2 k = .inr (t, n, .inr (.inl f)) := by
  unfold gL at e
  split at e
  · rename_i n' f' he
    cases e
    exact gX_spec he
  · cases e
theorem gR_spec {h : MH} {k t n : Nat} {f : Nat → Option Nat} (e : gR h k t = some (n, f)) : k < h.1 ∧ h.2 k = .inr (t, n, .inr (.inr f)) := by
  unfold gR at e
  split at e
  · rename_i n' f' he
    cases e
    exact gX_spec he
  · cases e
theorem gF_of {h : MH} {k ci j : Nat} {fs : List MV} {x : MV} (hk : k < h.1) (e : h.2 k = .inl (ci, fs)) (hj : fs[j]? = some x) : gF h k ci j = some x := by
  simp [gF, hk, e, hj]
theorem gC_of {h : MH} {k ci : Nat} {fs : List MV} (hk : k < h.1) (e : h.2 k = .inl (ci, fs)) : gC h k = some ci := by
  simp [gC, hk, e]
theorem gA_of {h : MH} {k t n : Nat} {f : Nat → Int32} (hk : k < h.1) (e : h.2 k = .inr (t, n, .inl f)) : gA h k t = some (n, f) := by
  simp [gA, gX, hk, e]
theorem gL_of {h : MH} {k t n : Nat} {f : Nat → Int64} (hk : k < h.1) (e : h.2 k = .inr (t, n, .inr (.inl f))) : gL h k t = some (n, f) := by
  simp [gL, gX, hk, e]
theorem gR_of {h : MH} {k t n : Nat} {f : Nat → Option Nat} (hk : k < h.1) (e : h.2 k = .inr (t, n, .inr (.inr f))) : gR h k t = some (n, f) := by
  simp [gR, gX, hk, e]
theorem wl_len (G : mG) (h : MH) : (wl G h).length = h.1 := by simp [wl]
theorem wl_get (G : mG) {h : MH} {k : Nat} (hk : k < h.1) : (wl G h)[k]? = some (m_b G + k, trC (m_b G) G.2.1 (h.2 k)) := by
  simp [wl, hk]
theorem wl_of {G : mG} {h : MH} {k : Nat} {q : Nat × va_E} (e : (wl G h)[k]? = some q) : k < h.1 ∧ q = (m_b G + k, trC (m_b G) G.2.1 (h.2 k)) := by
  have hk : k < h.1 := by
    have := (List.getElem?_eq_some_iff.mp e).1
    rwa [wl_len] at this
  rw [wl_get G hk] at e
  exact ⟨hk, (Option.some.inj e).symm⟩
theorem wl_set (G : mG) {h : MH} {k : Nat} (hk : k < h.1) (x : MC) : (wl G h).set k (m_b G + k, trC (m_b G) G.2.1 x) = wl G (mset h k x) := by
  apply List.ext_getElem?
  intro j
  rw [List.getElem?_set]
  by_cases hj : j < h.1
  · rw [wl_get G (h := mset h k x) (show j < (mset h k x).1 from hj)]
    by_cases e : k = j
    · subst e
      simp [wl_len, hk, mset, va_up]
    · rw [if_neg e, wl_get G hj]
      simp [mset, va_up, Ne.symm e]
  · have h1 : (wl G h)[j]? = none := by rw [List.getElem?_eq_none_iff, wl_len]; omega
    have h2 : (wl G (mset h k x))[j]? = none := by rw [List.getElem?_eq_none_iff, wl_len]; exact Nat.le_of_not_lt hj
    rw [h2, if_neg (by omega), h1]
theorem wl_push (G : mG) (h : MH) (x : MC) : wl G h ++ [(m_b G + h.1, trC (m_b G) G.2.1 x)] = wl G (mnew h x) := by
  unfold wl mnew
  rw [List.range_succ, List.map_append]
  congr 1
  · apply List.map_congr_left
    intro j hj
    have := List.mem_range.mp hj
    simp [va_up, Nat.ne_of_lt this]
  · simp [va_up]
theorem wl_D (G : mG) (h : MH) : va_D (mA G) (wl G h) := by
  refine ⟨fun i j x y hi hj hxy => ?_, fun k q hk => ?_⟩
  · obtain ⟨-, rfl⟩ := wl_of hi
    obtain ⟨-, rfl⟩ := wl_of hj
    simp at hxy
    exact hxy
  · obtain ⟨-, rfl⟩ := wl_of hk
    exact Nat.le_add_right _ _
def m_tys (G : mG) : List (ClassId × FieldType) := [(G.2.1 0, .int), (G.2.1 1, .boolean), (G.2.1 2, .long), (G.2.1 3, .object "BassRealiser$Chord"), (G.2.1 4, .object "BassRealiser$Column")]
def m_nS : Nat := 3
def m_sC (_ : Nat) : String := "BassRealiser"
def m_sF (t : Nat) : String := match t with
  | 0 => "STEPS"
  | 1 => "SHARPS"
  | _ => "FLATS"
def m_sL (t : Nat) : List Int32 := match t with
  | 0 => [0, 2, 4, 5, 7, 9, 11]
  | 1 => [3, 0, 4, 1, 5, 2, 6]
  | _ => [6, 2, 5, 1, 4, 0, 3]
def m_sN (t : Nat) : Nat := (m_sL t).length
def m_sV (t j : Nat) : Int32 := (m_sL t).getD j 0
def m_nest : List Cond := [(Jvm.Cond.methodLinkNest "BassRealiser$Chord" (76 : Nat) ({ cls := "BassRealiser", name := "keyAlter", desc := "(II)I" } : Jvm.MethodName) "BassRealiser"),
  (Jvm.Cond.fieldLinkNest "BassRealiser$Chord" (25 : Nat) "BassRealiser" "STEPS" "[I" "BassRealiser"),
  (Jvm.Cond.methodLinkNest "BassRealiser$Chord" (64 : Nat) ({ cls := "BassRealiser", name := "classBit", desc := "(I)I" } : Jvm.MethodName) "BassRealiser"),
  (Jvm.Cond.methodLinkNest "BassRealiser$Rules" (28 : Nat) ({ cls := "BassRealiser", name := "pitchOf", desc := "(II)I" } : Jvm.MethodName) "BassRealiser"),
  (Jvm.Cond.methodLinkNest "BassRealiser$Rules" (42 : Nat) ({ cls := "BassRealiser", name := "classBit", desc := "(I)I" } : Jvm.MethodName) "BassRealiser"),
  (Jvm.Cond.methodLinkNest "BassRealiser$Column" (63 : Nat) ({ cls := "BassRealiser", name := "pack", desc := "(III)I" } : Jvm.MethodName) "BassRealiser"),
  (Jvm.Cond.methodLinkNest "BassRealiser$Move" (21 : Nat) ({ cls := "BassRealiser", name := "pitchOf", desc := "(II)I" } : Jvm.MethodName) "BassRealiser"),
  (Jvm.Cond.methodLinkNest "BassRealiser$Move" (70 : Nat) ({ cls := "BassRealiser", name := "classBit", desc := "(I)I" } : Jvm.MethodName) "BassRealiser"),
  (Jvm.Cond.methodLinkNest "BassRealiser$Move" (73 : Nat) ({ cls := "BassRealiser", name := "within", desc := "(III)Z" } : Jvm.MethodName) "BassRealiser")]
theorem m_nest_on : ∀ w ∈ m_nest, w.onTables = true := by decide +kernel
theorem m_nest_warm {s U : State} (hW : s.WarmedH U.vm) : ∀ w ∈ m_nest, va_Nw w s → va_Nw w U := List.forall_mem_cons.mpr ⟨va_Nw.warmM hW, List.forall_mem_cons.mpr ⟨va_Nw.warmF hW, List.forall_mem_cons.mpr ⟨va_Nw.warmM hW, List.forall_mem_cons.mpr ⟨va_Nw.warmM hW, List.forall_mem_cons.mpr ⟨va_Nw.warmM hW, List.forall_mem_cons.mpr ⟨va_Nw.warmM hW, List.forall_mem_cons.mpr ⟨va_Nw.warmM hW, List.forall_mem_cons.mpr ⟨va_Nw.warmM hW, List.forall_mem_cons.mpr ⟨va_Nw.warmM hW, fun _ h => absurd h List.not_mem_nil⟩⟩⟩⟩⟩⟩⟩⟩⟩
theorem nw_0 : (Jvm.Cond.methodLinkNest "BassRealiser$Chord" (76 : Nat) ({ cls := "BassRealiser", name := "keyAlter", desc := "(II)I" } : Jvm.MethodName) "BassRealiser") ∈ m_nest := List.mem_of_getElem? (i := 0) rfl
theorem nw_1 : (Jvm.Cond.fieldLinkNest "BassRealiser$Chord" (25 : Nat) "BassRealiser" "STEPS" "[I" "BassRealiser") ∈ m_nest := List.mem_of_getElem? (i := 1) rfl
theorem nw_2 : (Jvm.Cond.methodLinkNest "BassRealiser$Chord" (64 : Nat) ({ cls := "BassRealiser", name := "classBit", desc := "(I)I" } : Jvm.MethodName) "BassRealiser") ∈ m_nest := List.mem_of_getElem? (i := 2) rfl
theorem nw_3 : (Jvm.Cond.methodLinkNest "BassRealiser$Rules" (28 : Nat) ({ cls := "BassRealiser", name := "pitchOf", desc := "(II)I" } : Jvm.MethodName) "BassRealiser") ∈ m_nest := List.mem_of_getElem? (i := 3) rfl
theorem nw_4 : (Jvm.Cond.methodLinkNest "BassRealiser$Rules" (42 : Nat) ({ cls := "BassRealiser", name := "classBit", desc := "(I)I" } : Jvm.MethodName) "BassRealiser") ∈ m_nest := List.mem_of_getElem? (i := 4) rfl
theorem nw_5 : (Jvm.Cond.methodLinkNest "BassRealiser$Column" (63 : Nat) ({ cls := "BassRealiser", name := "pack", desc := "(III)I" } : Jvm.MethodName) "BassRealiser") ∈ m_nest := List.mem_of_getElem? (i := 5) rfl
theorem nw_6 : (Jvm.Cond.methodLinkNest "BassRealiser$Move" (21 : Nat) ({ cls := "BassRealiser", name := "pitchOf", desc := "(II)I" } : Jvm.MethodName) "BassRealiser") ∈ m_nest := List.mem_of_getElem? (i := 6) rfl
theorem nw_7 : (Jvm.Cond.methodLinkNest "BassRealiser$Move" (70 : Nat) ({ cls := "BassRealiser", name := "classBit", desc := "(I)I" } : Jvm.MethodName) "BassRealiser") ∈ m_nest := List.mem_of_getElem? (i := 7) rfl
theorem nw_8 : (Jvm.Cond.methodLinkNest "BassRealiser$Move" (73 : Nat) ({ cls := "BassRealiser", name := "within", desc := "(III)Z" } : Jvm.MethodName) "BassRealiser") ∈ m_nest := List.mem_of_getElem? (i := 8) rfl
def m_aos : List String := ["BassRealiser$Chord", "BassRealiser$Column"]
def m_St (G : mG) (U : State) (H : Heap) : Prop := (∀ t, t < m_nS → va_Z (m_sC t) (m_sF t) "[I" (.ref (m_s G t)) (mA G) U H ∧ va_T .int (m_s G t) (m_sN t) (fun j => .int (m_sV t j)) (mA G) U H) ∧ (∀ w ∈ m_nest, va_Nw w U) ∧ ∀ C ∈ m_aos, va_AO C U
theorem m_St.warm {G : mG} {s U : State} {H : Heap} (hW : s.WarmedH U.vm) (h : m_St G s H) : m_St G U H := ⟨fun t ht => ⟨(h.1 t ht).1.moved hW.alike, (h.1 t ht).2.moved hW.alike⟩, fun w hw => m_nest_warm hW w hw (h.2.1 w hw), fun C hC => (h.2.2 C hC).moved hW.alike⟩
theorem m_St.same {G : mG} {u U : State} (hvm : u.vm = U.vm) (hh : u.heap = U.heap) (h : m_St G u u.heap) : m_St G U U.heap := by
  have ha : u.vm.Alike U.vm := by rw [hvm]; exact Vm.Alike.refl _
  rw [← hh]
  exact ⟨fun t ht => ⟨(h.1 t ht).1.moved ha, (h.1 t ht).2.moved ha⟩, fun w hw => va_Nw.same (m_nest_on w hw) hvm (h.2.1 w hw), fun C hC => (h.2.2 C hC).moved ha⟩
theorem m_St.kept {G : mG} {U : State} {H H1 : Heap} (h : m_St G U H) (hq : ∀ a : Nat, a < H.size → ¬ mA G a → H1[a]? = H[a]?) : m_St G U H1 := ⟨fun t ht => ⟨(h.1 t ht).1.kept hq, (h.1 t ht).2.kept hq⟩, h.2⟩
def Wd (G : mG) (h : MH) (U : State) : Prop := va_P G.1 vwCl (wl G h) U.heap ∧ U.heap.size = m_b G + h.1 ∧ va_K G.1 vwCl (m_tys G) U ∧ m_St G U U.heap
def Wo (G : mG) (s : State) (h : MH) (H : Heap) (locs : List Loc) : Prop := va_P G.1 vwCl (wl G h) H ∧ H.size = m_b G + h.1 ∧ va_S (mA G) s.heap H locs
def Cx (G : mG) (p : Program) (s : State) (m : MethodId) (args : Array Value) (c : Code) (cc : ByteArray) (nL : Nat) (own : String) : Prop := CallFix p m c cc nL s args lw_good own ∧ va_K G.1 vwCl (m_tys G) s ∧ m_St G s s.heap ∧ m_b G ≤ s.heap.size
def WG (p : Program) (l : Launch) (e : Env) (R : Room) (s : State) (m : MethodId) (args : Array Value) (below : List Frame) (meth : Method) (c : Code) (cells slots : Nat) (Q : State → Prop) (G : mG) (nL : Nat) (lv : List (Nat × Value)) (pc : Nat) (st : List Value) (h : MH) : Prop :=
  ∀ (H : Heap) (locs : List Loc) (ls : Array Slot), Wo G s h H locs → lv_has ls nL lv → W p l e R s m args below meth c H locs cells slots Q (F0 m pc ls st)
section MR
variable {p : Program} {l : Launch} {e : Env} {R : Room} {s : State} {m : MethodId} {args : Array Value} {below : List Frame} {meth : Method} {c : Code} {cells slots : Nat} {Q : State → Prop} {G : mG} {cc : ByteArray} {nL : Nat} {own : String} {lv lv' : List (Nat × Value)} {pc : Nat} {st : List Value} {h : MH}
theorem Cx.ex (C0 : Cx G p s m args c cc nL own) : p.tables.exec = Jvm.exec := C0.1.1
theorem Cx.by (C0 : Cx G p s m args c cc nL own) : c.code = cc := C0.1.2.1
theorem Cx.ml (C0 : Cx G p s m args c cc nL own) : c.maxLocals = nL := C0.1.2.2.1
theorem Cx.ow (C0 : Cx G p s m args c cc nL own) : s.vm.findClass own = some m.cls := C0.1.2.2.2.1
theorem Cx.ts (C0 : Cx G p s m args c cc nL own) : ∀ w ∈ lw_good, w.before args s = true := C0.1.2.2.2.2
theorem Cx.K (C0 : Cx G p s m args c cc nL own) : va_K G.1 vwCl (m_tys G) s := C0.2.1
theorem Cx.St (C0 : Cx G p s m args c cc nL own) : m_St G s s.heap := C0.2.2.1
theorem Cx.A (C0 : Cx G p s m args c cc nL own) : ∀ q, s.heap.size ≤ q → mA G q := fun _ hq => Nat.le_trans C0.2.2.2 hq
theorem x_sub (ks : List Nat) (hl : lv_pick lv ks = lv') (k : WG p l e R s m args below meth c cells slots Q G nL lv' pc st h) : WG p l e R s m args below meth c cells slots Q G nL lv pc st h := fun H locs ls hw hv => k H locs ls hw (lv_sub hv ks hl)
theorem x_cs {cells' slots' : Nat} (h1 : cells ≤ cells') (h2 : slots ≤ slots') (k : WG p l e R s m args below meth c cells' slots' Q G nL lv pc st h) : WG p l e R s m args below meth c cells slots Q G nL lv pc st h := fun H locs ls hw hv => W.widen h1 h2 (k H locs ls hw hv)
theorem x_iconst (C0 : Cx G p s m args c cc nL own) {n : Int} {v : Int32} (hdg : decode cc pc = .ok (.iconst n, 1)) (hn : Int32.ofInt n = v) (k : WG p l e R s m args below meth c cells slots Q G nL lv (pc + 1) (.int v :: st) h) : WG p l e R s m args below meth c cells slots Q G nL lv pc (st) h := fun H locs ls hw hv => lv_iconst C0.ex C0.by hdg hn (k H locs ls hw hv)
theorem x_bipush (C0 : Cx G p s m args c cc nL own) {n : Int} {v : Int32} (hdg : decode cc pc = .ok (.bipush n, 2)) (hn : (Int8.ofInt n).toInt32 = v) (k : WG p l e R s m args below meth c cells slots Q G nL lv (pc + 2) (.int v :: st) h) : WG p l e R s m args below meth c cells slots Q G nL lv pc (st) h := fun H locs ls hw hv => lv_bipush C0.ex C0.by hdg hn (k H locs ls hw hv)
theorem x_sipush (C0 : Cx G p s m args c cc nL own) {n : Int} {v : Int32} (hdg : decode cc pc = .ok (.sipush n, 3)) (hn : (Int16.ofInt n).toInt32 = v) (k : WG p l e R s m args below meth c cells slots Q G nL lv (pc + 3) (.int v :: st) h) : WG p l e R s m args below meth c cells slots Q G nL lv pc (st) h := fun H locs ls hw hv => lv_sipush C0.ex C0.by hdg hn (k H locs ls hw hv)
theorem x_iadd (C0 : Cx G p s m args c cc nL own) {x y : Int32} (hdg : decode cc pc = .ok (.iadd, 1)) (k : WG p l e R s m args below meth c cells slots Q G nL lv (pc + 1) (.int (x + y) :: st) h) : WG p l e R s m args below meth c cells slots Q G nL lv pc (.int y :: .int x :: st) h := fun H locs ls hw hv => lv_iadd C0.ex C0.by hdg (k H locs ls hw hv)
theorem x_isub (C0 : Cx G p s m args c cc nL own) {x y : Int32} (hdg : decode cc pc = .ok (.isub, 1)) (k : WG p l e R s m args below meth c cells slots Q G nL lv (pc + 1) (.int (x - y) :: st) h) : WG p l e R s m args below meth c cells slots Q G nL lv pc (.int y :: .int x :: st) h := fun H locs ls hw hv => lv_isub C0.ex C0.by hdg (k H locs ls hw hv)
theorem x_imul (C0 : Cx G p s m args c cc nL own) {x y : Int32} (hdg : decode cc pc = .ok (.imul, 1)) (k : WG p l e R s m args below meth c cells slots Q G nL lv (pc + 1) (.int (x * y) :: st) h) : WG p l e R s m args below meth c cells slots Q G nL lv pc (.int y :: .int x :: st) h := fun H locs ls hw hv => lv_imul C0.ex C0.by hdg (k H locs ls hw hv)
theorem x_iand (C0 : Cx G p s m args c cc nL own) {x y : Int32} (hdg : decode cc pc = .ok (.iand, 1)) (k : WG p l e R s m args below meth c cells slots Q G nL lv (pc + 1) (.int (x &&& y) :: st) h) : WG p l e R s m args below meth c cells slots Q G nL lv pc (.int y :: .int x :: st) h := fun H locs ls hw hv => lv_iand C0.ex C0.by hdg (k H locs ls hw hv)
theorem x_ior (C0 : Cx G p s m args c cc nL own) {x y : Int32} (hdg : decode cc pc = .ok (.ior, 1)) (k : WG p l e R s m args below meth c cells slots Q G nL lv (pc + 1) (.int (x ||| y) :: st) h) : WG p l e R s m args below meth c cells slots Q G nL lv pc (.int y :: .int x :: st) h := fun H locs ls hw hv => lv_ior C0.ex C0.by hdg (k H locs ls hw hv)
theorem x_ixor (C0 : Cx G p s m args c cc nL own) {x y : Int32} (hdg : decode cc pc = .ok (.ixor, 1)) (k : WG p l e R s m args below meth c cells slots Q G nL lv (pc + 1) (.int (x ^^^ y) :: st) h) : WG p l e R s m args below meth c cells slots Q G nL lv pc (.int y :: .int x :: st) h := fun H locs ls hw hv => lv_ixor C0.ex C0.by hdg (k H locs ls hw hv)
theorem x_ishl (C0 : Cx G p s m args c cc nL own) {x y : Int32} (hdg : decode cc pc = .ok (.ishl, 1)) (k : WG p l e R s m args below meth c cells slots Q G nL lv (pc + 1) (.int (x <<< (y &&& 31)) :: st) h) : WG p l e R s m args below meth c cells slots Q G nL lv pc (.int y :: .int x :: st) h := fun H locs ls hw hv => lv_ishl C0.ex C0.by hdg (k H locs ls hw hv)
theorem x_ishr (C0 : Cx G p s m args c cc nL own) {x y : Int32} (hdg : decode cc pc = .ok (.ishr, 1)) (k : WG p l e R s m args below meth c cells slots Q G nL lv (pc + 1) (.int (x >>> (y &&& 31)) :: st) h) : WG p l e R s m args below meth c cells slots Q G nL lv pc (.int y :: .int x :: st) h := fun H locs ls hw hv => lv_ishr C0.ex C0.by hdg (k H locs ls hw hv)
theorem x_ineg (C0 : Cx G p s m args c cc nL own) {x : Int32} (hdg : decode cc pc = .ok (.ineg, 1)) (k : WG p l e R s m args below meth c cells slots Q G nL lv (pc + 1) (.int (-x) :: st) h) : WG p l e R s m args below meth c cells slots Q G nL lv pc (.int x :: st) h := fun H locs ls hw hv => lv_ineg C0.ex C0.by hdg (k H locs ls hw hv)
theorem x_idiv (C0 : Cx G p s m args c cc nL own) {x y : Int32} (hdg : decode cc pc = .ok (.idiv, 1)) (hne : ¬ y = 0) (k : WG p l e R s m args below meth c cells slots Q G nL lv (pc + 1) (.int (x / y) :: st) h) : WG p l e R s m args below meth c cells slots Q G nL lv pc (.int y :: .int x :: st) h := fun H locs ls hw hv => lv_idiv C0.ex C0.by hdg hne (k H locs ls hw hv)
theorem x_irem (C0 : Cx G p s m args c cc nL own) {x y : Int32} (hdg : decode cc pc = .ok (.irem, 1)) (hne : ¬ y = 0) (k : WG p l e R s m args below meth c cells slots Q G nL lv (pc + 1) (.int (x - x / y * y) :: st) h) : WG p l e R s m args below meth c cells slots Q G nL lv pc (.int y :: .int x :: st) h := fun H locs ls hw hv => lv_irem C0.ex C0.by hdg hne (k H locs ls hw hv)
theorem x_iushr (C0 : Cx G p s m args c cc nL own) {x y : Int32} (hdg : decode cc pc = .ok (.iushr, 1)) (k : WG p l e R s m args below meth c cells slots Q G nL lv (pc + 1) (.int (x.toUInt32 >>> (y.toUInt32 &&& Int32.toUInt32 31)).toInt32 :: st) h) : WG p l e R s m args below meth c cells slots Q G nL lv pc (.int y :: .int x :: st) h := fun H locs ls hw hv => lv_iushr C0.ex C0.by hdg rfl (k H locs ls hw hv)
theorem x_dup (C0 : Cx G p s m args c cc nL own) {va : Value} (hdg : decode cc pc = .ok (.dup, 1)) (h1 : va.category = 1) (k : WG p l e R s m args below meth c cells slots Q G nL lv (pc + 1) (va :: va :: st) h) : WG p l e R s m args below meth c cells slots Q G nL lv pc (va :: st) h := fun H locs ls hw hv => lv_dup C0.ex C0.by hdg h1 (k H locs ls hw hv)
theorem x_pop (C0 : Cx G p s m args c cc nL own) {va : Value} (hdg : decode cc pc = .ok (.pop, 1)) (h1 : va.category = 1) (k : WG p l e R s m args below meth c cells slots Q G nL lv (pc + 1) (st) h) : WG p l e R s m args below meth c cells slots Q G nL lv pc (va :: st) h := fun H locs ls hw hv => lv_pop C0.ex C0.by hdg h1 (k H locs ls hw hv)
theorem x_dup_x1 (C0 : Cx G p s m args c cc nL own) {va vb : Value} (hdg : decode cc pc = .ok (.dup_x1, 1)) (h1 : va.category = 1) (h2 : vb.category = 1) (k : WG p l e R s m args below meth c cells slots Q G nL lv (pc + 1) (va :: vb :: va :: st) h) : WG p l e R s m args below meth c cells slots Q G nL lv pc (va :: vb :: st) h := fun H locs ls hw hv => lv_dup_x1 C0.ex C0.by hdg h1 h2 (k H locs ls hw hv)
theorem x_dup_x2 (C0 : Cx G p s m args c cc nL own) {va vb vd : Value} (hdg : decode cc pc = .ok (.dup_x2, 1)) (h1 : va.category = 1) (h2 : vb.category = 1) (h3 : vd.category = 1) (k : WG p l e R s m args below meth c cells slots Q G nL lv (pc + 1) (va :: vb :: vd :: va :: st) h) : WG p l e R s m args below meth c cells slots Q G nL lv pc (va :: vb :: vd :: st) h := fun H locs ls hw hv => lv_dup_x2 C0.ex C0.by hdg h1 h2 h3 (k H locs ls hw hv)
theorem x_dup2 (C0 : Cx G p s m args c cc nL own) {va vb : Value} (hdg : decode cc pc = .ok (.dup2, 1)) (h1 : va.category = 1) (h2 : vb.category = 1) (k : WG p l e R s m args below meth c cells slots Q G nL lv (pc + 1) (va :: vb :: va :: vb :: st) h) : WG p l e R s m args below meth c cells slots Q G nL lv pc (va :: vb :: st) h := fun H locs ls hw hv => lv_dup2_11 C0.ex C0.by hdg h1 h2 (k H locs ls hw hv)
theorem x_lconst (C0 : Cx G p s m args c cc nL own) {n : Fin 2} {v : Int64} (hdg : decode cc pc = .ok (.lconst n, 1)) (hn : Int64.ofNat (n : Nat) = v) (k : WG p l e R s m args below meth c cells slots Q G nL lv (pc + 1) (.long v :: st) h) : WG p l e R s m args below meth c cells slots Q G nL lv pc (st) h := fun H locs ls hw hv => lv_lconst C0.ex C0.by hdg hn (k H locs ls hw hv)
theorem x_ladd (C0 : Cx G p s m args c cc nL own) {x y : Int64} (hdg : decode cc pc = .ok (.ladd, 1)) (k : WG p l e R s m args below meth c cells slots Q G nL lv (pc + 1) (.long (x + y) :: st) h) : WG p l e R s m args below meth c cells slots Q G nL lv pc (.long y :: .long x :: st) h := fun H locs ls hw hv => lv_ladd C0.ex C0.by hdg (k H locs ls hw hv)
theorem x_lcmp (C0 : Cx G p s m args c cc nL own) {x y : Int64} (hdg : decode cc pc = .ok (.lcmp, 1)) (k : WG p l e R s m args below meth c cells slots Q G nL lv (pc + 1) (.int (lg_cmp x y) :: st) h) : WG p l e R s m args below meth c cells slots Q G nL lv pc (.long y :: .long x :: st) h := fun H locs ls hw hv => W.lcmp C0.ex C0.by hdg (k H locs ls hw hv)
theorem x_i2l (C0 : Cx G p s m args c cc nL own) {x : Int32} (hdg : decode cc pc = .ok (.i2l, 1)) (k : WG p l e R s m args below meth c cells slots Q G nL lv (pc + 1) (.long x.toInt64 :: st) h) : WG p l e R s m args below meth c cells slots Q G nL lv pc (.int x :: st) h := fun H locs ls hw hv => lv_i2l C0.ex C0.by hdg rfl (k H locs ls hw hv)
theorem x_l2i (C0 : Cx G p s m args c cc nL own) {x : Int64} (hdg : decode cc pc = .ok (.l2i, 1)) (k : WG p l e R s m args below meth c cells slots Q G nL lv (pc + 1) (.int x.toInt32 :: st) h) : WG p l e R s m args below meth c cells slots Q G nL lv pc (.long x :: st) h := fun H locs ls hw hv => lv_l2i C0.ex C0.by hdg rfl (k H locs ls hw hv)
theorem x_goto (C0 : Cx G p s m args c cc nL own) {off : Int} {tgt : Nat} (hdg : decode cc pc = .ok (.goto off, 3)) (ht : (pc : Int) + off = (tgt : Int)) (k : WG p l e R s m args below meth c cells slots Q G nL lv tgt st h) : WG p l e R s m args below meth c cells slots Q G nL lv pc st h := fun H locs ls hw hv => lv_goto C0.ex C0.by hdg ht (k H locs ls hw hv)
theorem x_if_eq (C0 : Cx G p s m args c cc nL own) {x : Int32} {off : Int} {tgt : Nat} (hdg : decode cc pc = .ok (.ifCond .eq off, 3)) (ht : (pc : Int) + off = (tgt : Int)) (kt : x = 0 → WG p l e R s m args below meth c cells slots Q G nL lv tgt st h) (kf : ¬ x = 0 → WG p l e R s m args below meth c cells slots Q G nL lv (pc + 3) st h) : WG p l e R s m args below meth c cells slots Q G nL lv pc (.int x :: st) h := fun H locs ls hw hv => lv_if_eq C0.ex C0.by hdg ht (fun q => kt q H locs ls hw hv) (fun q => kf q H locs ls hw hv)
theorem x_icmp_eq (C0 : Cx G p s m args c cc nL own) {x y : Int32} {off : Int} {tgt : Nat} (hdg : decode cc pc = .ok (.if_icmp .eq off, 3)) (ht : (pc : Int) + off = (tgt : Int)) (kt : x = y → WG p l e R s m args below meth c cells slots Q G nL lv tgt st h) (kf : ¬ x = y → WG p l e R s m args below meth c cells slots Q G nL lv (pc + 3) st h) : WG p l e R s m args below meth c cells slots Q G nL lv pc (.int y :: .int x :: st) h := fun H locs ls hw hv => lv_icmp_eq C0.ex C0.by hdg ht (fun q => kt q H locs ls hw hv) (fun q => kf q H locs ls hw hv)
theorem x_if_ne (C0 : Cx G p s m args c cc nL own) {x : Int32} {off : Int} {tgt : Nat} (hdg : decode cc pc = .ok (.ifCond .ne off, 3)) (ht : (pc : Int) + off = (tgt : Int)) (kt : ¬ x = 0 → WG p l e R s m args below meth c cells slots Q G nL lv tgt st h) (kf : x = 0 → WG p l e R s m args below meth c cells slots Q G nL lv (pc + 3) st h) : WG p l e R s m args below meth c cells slots Q G nL lv pc (.int x :: st) h := fun H locs ls hw hv => lv_if_ne C0.ex C0.by hdg ht (fun q => kt q H locs ls hw hv) (fun q => kf q H locs ls hw hv)
theorem x_icmp_ne (C0 : Cx G p s m args c cc nL own) {x y : Int32} {off : Int} {tgt : Nat} (hdg : decode cc pc = .ok (.if_icmp .ne off, 3)) (ht : (pc : Int) + off = (tgt : Int)) (kt : ¬ x = y → WG p l e R s m args below meth c cells slots Q G nL lv tgt st h) (kf : x = y → WG p l e R s m args below meth c cells slots Q G nL lv (pc + 3) st h) : WG p l e R s m args below meth c cells slots Q G nL lv pc (.int y :: .int x :: st) h := fun H locs ls hw hv => lv_icmp_ne C0.ex C0.by hdg ht (fun q => kt q H locs ls hw hv) (fun q => kf q H locs ls hw hv)
theorem x_if_lt (C0 : Cx G p s m args c cc nL own) {x : Int32} {off : Int} {tgt : Nat} (hdg : decode cc pc = .ok (.ifCond .lt off, 3)) (ht : (pc : Int) + off = (tgt : Int)) (kt : x < 0 → WG p l e R s m args below meth c cells slots Q G nL lv tgt st h) (kf : ¬ x < 0 → WG p l e R s m args below meth c cells slots Q G nL lv (pc + 3) st h) : WG p l e R s m args below meth c cells slots Q G nL lv pc (.int x :: st) h := fun H locs ls hw hv => lv_if_lt C0.ex C0.by hdg ht (fun q => kt q H locs ls hw hv) (fun q => kf q H locs ls hw hv)
theorem x_icmp_lt (C0 : Cx G p s m args c cc nL own) {x y : Int32} {off : Int} {tgt : Nat} (hdg : decode cc pc = .ok (.if_icmp .lt off, 3)) (ht : (pc : Int) + off = (tgt : Int)) (kt : x < y → WG p l e R s m args below meth c cells slots Q G nL lv tgt st h) (kf : ¬ x < y → WG p l e R s m args below meth c cells slots Q G nL lv (pc + 3) st h) : WG p l e R s m args below meth c cells slots Q G nL lv pc (.int y :: .int x :: st) h := fun H locs ls hw hv => lv_icmp_lt C0.ex C0.by hdg ht (fun q => kt q H locs ls hw hv) (fun q => kf q H locs ls hw hv)
theorem x_if_ge (C0 : Cx G p s m args c cc nL own) {x : Int32} {off : Int} {tgt : Nat} (hdg : decode cc pc = .ok (.ifCond .ge off, 3)) (ht : (pc : Int) + off = (tgt : Int)) (kt : 0 ≤ x → WG p l e R s m args below meth c cells slots Q G nL lv tgt st h) (kf : ¬ 0 ≤ x → WG p l e R s m args below meth c cells slots Q G nL lv (pc + 3) st h) : WG p l e R s m args below meth c cells slots Q G nL lv pc (.int x :: st) h := fun H locs ls hw hv => lv_if_ge C0.ex C0.by hdg ht (fun q => kt q H locs ls hw hv) (fun q => kf q H locs ls hw hv)
theorem x_icmp_ge (C0 : Cx G p s m args c cc nL own) {x y : Int32} {off : Int} {tgt : Nat} (hdg : decode cc pc = .ok (.if_icmp .ge off, 3)) (ht : (pc : Int) + off = (tgt : Int)) (kt : y ≤ x → WG p l e R s m args below meth c cells slots Q G nL lv tgt st h) (kf : ¬ y ≤ x → WG p l e R s m args below meth c cells slots Q G nL lv (pc + 3) st h) : WG p l e R s m args below meth c cells slots Q G nL lv pc (.int y :: .int x :: st) h := fun H locs ls hw hv => lv_icmp_ge C0.ex C0.by hdg ht (fun q => kt q H locs ls hw hv) (fun q => kf q H locs ls hw hv)
theorem x_if_gt (C0 : Cx G p s m args c cc nL own) {x : Int32} {off : Int} {tgt : Nat} (hdg : decode cc pc = .ok (.ifCond .gt off, 3)) (ht : (pc : Int) + off = (tgt : Int)) (kt : 0 < x → WG p l e R s m args below meth c cells slots Q G nL lv tgt st h) (kf : ¬ 0 < x → WG p l e R s m args below meth c cells slots Q G nL lv (pc + 3) st h) : WG p l e R s m args below meth c cells slots Q G nL lv pc (.int x :: st) h := fun H locs ls hw hv => lv_if_gt C0.ex C0.by hdg ht (fun q => kt q H locs ls hw hv) (fun q => kf q H locs ls hw hv)
theorem x_icmp_gt (C0 : Cx G p s m args c cc nL own) {x y : Int32} {off : Int} {tgt : Nat} (hdg : decode cc pc = .ok (.if_icmp .gt off, 3)) (ht : (pc : Int) + off = (tgt : Int)) (kt : y < x → WG p l e R s m args below meth c cells slots Q G nL lv tgt st h) (kf : ¬ y < x → WG p l e R s m args below meth c cells slots Q G nL lv (pc + 3) st h) : WG p l e R s m args below meth c cells slots Q G nL lv pc (.int y :: .int x :: st) h := fun H locs ls hw hv => lv_icmp_gt C0.ex C0.by hdg ht (fun q => kt q H locs ls hw hv) (fun q => kf q H locs ls hw hv)
theorem x_if_le (C0 : Cx G p s m args c cc nL own) {x : Int32} {off : Int} {tgt : Nat} (hdg : decode cc pc = .ok (.ifCond .le off, 3)) (ht : (pc : Int) + off = (tgt : Int)) (kt : x ≤ 0 → WG p l e R s m args below meth c cells slots Q G nL lv tgt st h) (kf : ¬ x ≤ 0 → WG p l e R s m args below meth c cells slots Q G nL lv (pc + 3) st h) : WG p l e R s m args below meth c cells slots Q G nL lv pc (.int x :: st) h := fun H locs ls hw hv => lv_if_le C0.ex C0.by hdg ht (fun q => kt q H locs ls hw hv) (fun q => kf q H locs ls hw hv)
theorem x_icmp_le (C0 : Cx G p s m args c cc nL own) {x y : Int32} {off : Int} {tgt : Nat} (hdg : decode cc pc = .ok (.if_icmp .le off, 3)) (ht : (pc : Int) + off = (tgt : Int)) (kt : x ≤ y → WG p l e R s m args below meth c cells slots Q G nL lv tgt st h) (kf : ¬ x ≤ y → WG p l e R s m args below meth c cells slots Q G nL lv (pc + 3) st h) : WG p l e R s m args below meth c cells slots Q G nL lv pc (.int y :: .int x :: st) h := fun H locs ls hw hv => lv_icmp_le C0.ex C0.by hdg ht (fun q => kt q H locs ls hw hv) (fun q => kf q H locs ls hw hv)
theorem x_iload_n (C0 : Cx G p s m args c cc nL own) {f : Fin 4} {i : Nat} {x : Int32} (q : Nat) (hdg : decode cc pc = .ok (.iload_n f, 1)) (hi : (f : Nat) = i) (hq : lv[q]? = some (i, .int x)) (k : WG p l e R s m args below meth c cells slots Q G nL lv (pc + 1) (.int x :: st) h) : WG p l e R s m args below meth c cells slots Q G nL lv pc st h := fun H locs ls hw hv => lv_iload_n C0.ex C0.by hdg hi (lv_at hv q hq) (k H locs ls hw hv)
theorem x_iload (C0 : Cx G p s m args c cc nL own) {i : Nat} {x : Int32} (q : Nat) (hdg : decode cc pc = .ok (.iload i, 2)) (hq : lv[q]? = some (i, .int x)) (k : WG p l e R s m args below meth c cells slots Q G nL lv (pc + 2) (.int x :: st) h) : WG p l e R s m args below meth c cells slots Q G nL lv pc st h := fun H locs ls hw hv => lv_iload C0.ex C0.by hdg (lv_at hv q hq) (k H locs ls hw hv)
theorem x_istore_n (C0 : Cx G p s m args c cc nL own) {f : Fin 4} {i : Nat} {x : Int32} (hdg : decode cc pc = .ok (.istore_n f, 1)) (hi : (f : Nat) = i) (hn : i < nL) (hl : (i, (Value.int x : Value)) :: lv.filter (fun q => !(q.1 == i) && !(q.1 + 1 == i && q.2.category == 2)) = lv') (k : WG p l e R s m args below meth c cells slots Q G nL lv' (pc + 1) st h) : WG p l e R s m args below meth c cells slots Q G nL lv pc (.int x :: st) h := fun H locs ls hw hv => lv_istore_n C0.ex C0.by hdg hi hv hn hl (fun ls' hv' => k H locs ls' hw hv')
theorem x_istore (C0 : Cx G p s m args c cc nL own) {i : Nat} {x : Int32} (hdg : decode cc pc = .ok (.istore i, 2)) (hn : i < nL) (hl : (i, (Value.int x : Value)) :: lv.filter (fun q => !(q.1 == i) && !(q.1 + 1 == i && q.2.category == 2)) = lv') (k : WG p l e R s m args below meth c cells slots Q G nL lv' (pc + 2) st h) : WG p l e R s m args below meth c cells slots Q G nL lv pc (.int x :: st) h := fun H locs ls hw hv => lv_istore C0.ex C0.by hdg hv hn hl (fun ls' hv' => k H locs ls' hw hv')
theorem x_aload_n (C0 : Cx G p s m args c cc nL own) {f : Fin 4} {i : Nat} {x : Nat} (q : Nat) (hdg : decode cc pc = .ok (.aload_n f, 1)) (hi : (f : Nat) = i) (hq : lv[q]? = some (i, .ref x)) (k : WG p l e R s m args below meth c cells slots Q G nL lv (pc + 1) (.ref x :: st) h) : WG p l e R s m args below meth c cells slots Q G nL lv pc st h := fun H locs ls hw hv => lv_aload_n C0.ex C0.by hdg hi (lv_at hv q hq) (k H locs ls hw hv)
theorem x_aload (C0 : Cx G p s m args c cc nL own) {i : Nat} {x : Nat} (q : Nat) (hdg : decode cc pc = .ok (.aload i, 2)) (hq : lv[q]? = some (i, .ref x)) (k : WG p l e R s m args below meth c cells slots Q G nL lv (pc + 2) (.ref x :: st) h) : WG p l e R s m args below meth c cells slots Q G nL lv pc st h := fun H locs ls hw hv => lv_aload C0.ex C0.by hdg (lv_at hv q hq) (k H locs ls hw hv)
theorem x_astore_n (C0 : Cx G p s m args c cc nL own) {f : Fin 4} {i : Nat} {x : Nat} (hdg : decode cc pc = .ok (.astore_n f, 1)) (hi : (f : Nat) = i) (hn : i < nL) (hl : (i, (Value.ref x : Value)) :: lv.filter (fun q => !(q.1 == i) && !(q.1 + 1 == i && q.2.category == 2)) = lv') (k : WG p l e R s m args below meth c cells slots Q G nL lv' (pc + 1) st h) : WG p l e R s m args below meth c cells slots Q G nL lv pc (.ref x :: st) h := fun H locs ls hw hv => lv_astore_n C0.ex C0.by hdg hi hv hn hl (fun ls' hv' => k H locs ls' hw hv')
theorem x_astore (C0 : Cx G p s m args c cc nL own) {i : Nat} {x : Nat} (hdg : decode cc pc = .ok (.astore i, 2)) (hn : i < nL) (hl : (i, (Value.ref x : Value)) :: lv.filter (fun q => !(q.1 == i) && !(q.1 + 1 == i && q.2.category == 2)) = lv') (k : WG p l e R s m args below meth c cells slots Q G nL lv' (pc + 2) st h) : WG p l e R s m args below meth c cells slots Q G nL lv pc (.ref x :: st) h := fun H locs ls hw hv => lv_astore C0.ex C0.by hdg hv hn hl (fun ls' hv' => k H locs ls' hw hv')
theorem x_lload_n (C0 : Cx G p s m args c cc nL own) {f : Fin 4} {i : Nat} {x : Int64} (q : Nat) (hdg : decode cc pc = .ok (.lload_n f, 1)) (hi : (f : Nat) = i) (hq : lv[q]? = some (i, .long x)) (k : WG p l e R s m args below meth c cells slots Q G nL lv (pc + 1) (.long x :: st) h) : WG p l e R s m args below meth c cells slots Q G nL lv pc st h := fun H locs ls hw hv => lv_lload_n C0.ex C0.by hdg hi (lv_at hv q hq) (k H locs ls hw hv)
theorem x_lload (C0 : Cx G p s m args c cc nL own) {i : Nat} {x : Int64} (q : Nat) (hdg : decode cc pc = .ok (.lload i, 2)) (hq : lv[q]? = some (i, .long x)) (k : WG p l e R s m args below meth c cells slots Q G nL lv (pc + 2) (.long x :: st) h) : WG p l e R s m args below meth c cells slots Q G nL lv pc st h := fun H locs ls hw hv => lv_lload C0.ex C0.by hdg (lv_at hv q hq) (k H locs ls hw hv)
theorem x_lstore_n (C0 : Cx G p s m args c cc nL own) {f : Fin 4} {i : Nat} {x : Int64} (hdg : decode cc pc = .ok (.lstore_n f, 1)) (hi : (f : Nat) = i) (hn : i + 1 < nL) (hl : (i, (Value.long x : Value)) :: lv.filter (fun q => !(q.1 == i) && (!(q.1 == i + 1) && !(q.1 + 1 == i && q.2.category == 2))) = lv') (k : WG p l e R s m args below meth c cells slots Q G nL lv' (pc + 1) st h) : WG p l e R s m args below meth c cells slots Q G nL lv pc (.long x :: st) h := fun H locs ls hw hv => lv_lstore_n C0.ex C0.by hdg hi hv hn hl (fun ls' hv' => k H locs ls' hw hv')
theorem x_lstore (C0 : Cx G p s m args c cc nL own) {i : Nat} {x : Int64} (hdg : decode cc pc = .ok (.lstore i, 2)) (hn : i + 1 < nL) (hl : (i, (Value.long x : Value)) :: lv.filter (fun q => !(q.1 == i) && (!(q.1 == i + 1) && !(q.1 + 1 == i && q.2.category == 2))) = lv') (k : WG p l e R s m args below meth c cells slots Q G nL lv' (pc + 2) st h) : WG p l e R s m args below meth c cells slots Q G nL lv pc (.long x :: st) h := fun H locs ls hw hv => lv_lstore C0.ex C0.by hdg hv hn hl (fun ls' hv' => k H locs ls' hw hv')
theorem x_iinc (C0 : Cx G p s m args c cc nL own) {i : Nat} {n : Int} {x v : Int32} (q : Nat) (hdg : decode cc pc = .ok (.iinc i n, 3)) (hq : lv[q]? = some (i, .int x)) (he : x + Int32.ofInt n = v) (hn : i < nL) (hl : (i, Value.int v) :: lv.filter (fun q => !(q.1 == i) && !(q.1 + 1 == i && q.2.category == 2)) = lv') (k : WG p l e R s m args below meth c cells slots Q G nL lv' (pc + 3) st h) : WG p l e R s m args below meth c cells slots Q G nL lv pc st h := fun H locs ls hw hv => lv_iinc C0.ex C0.by hdg hv hq he hn hl (fun ls' hv' => k H locs ls' hw hv')
theorem x_topI {x : Int32} (k : ∀ y : Int32, y = x → WG p l e R s m args below meth c cells slots Q G nL lv pc (.int y :: st) h) : WG p l e R s m args below meth c cells slots Q G nL lv pc (.int x :: st) h := k x rfl
theorem x_topJ {x : Int64} (k : ∀ y : Int64, y = x → WG p l e R s m args below meth c cells slots Q G nL lv pc (.long y :: st) h) : WG p l e R s m args below meth c cells slots Q G nL lv pc (.long x :: st) h := k x rfl
theorem x_nh {h1 : MH} (k : ∀ h2 : MH, h2 = h1 → WG p l e R s m args below meth c cells slots Q G nL lv pc st h2) : WG p l e R s m args below meth c cells slots Q G nL lv pc st h1 := k h1 rfl
theorem x_nk {k0 : Nat} (k : ∀ k1 : Nat, k1 = k0 → WG p l e R s m args below meth c cells slots Q G nL lv pc (.ref (m_b G + k1) :: st) h) : WG p l e R s m args below meth c cells slots Q G nL lv pc (.ref (m_b G + k0) :: st) h := k k0 rfl
theorem x_tableIn (C0 : Cx G p s m args c cc nL own) {dflt lo hi : Int} {offs : Array Int} {len : Nat} {x : Int32} {off : Int} {tgt : Nat} (hdg : decode cc pc = .ok (.tableswitch dflt lo hi offs, len)) (h1 : ¬ x.toInt < lo) (h2 : ¬ hi < x.toInt) (ho : offs[(x.toInt - lo).toNat]? = some off) (ht : (pc : Int) + off = (tgt : Int)) (k : WG p l e R s m args below meth c cells slots Q G nL lv tgt st h) : WG p l e R s m args below meth c cells slots Q G nL lv pc (.int x :: st) h := fun H locs ls hw hv => lv_tableIn C0.ex C0.by hdg h1 h2 ho ht (k H locs ls hw hv)
theorem x_tableOut (C0 : Cx G p s m args c cc nL own) {dflt lo hi : Int} {offs : Array Int} {len : Nat} {x : Int32} {tgt : Nat} (hdg : decode cc pc = .ok (.tableswitch dflt lo hi offs, len)) (h1 : x.toInt < lo ∨ hi < x.toInt) (ht : (pc : Int) + dflt = (tgt : Int)) (k : WG p l e R s m args below meth c cells slots Q G nL lv tgt st h) : WG p l e R s m args below meth c cells slots Q G nL lv pc (.int x :: st) h := fun H locs ls hw hv => lv_tableOut C0.ex C0.by hdg h1 ht (k H locs ls hw hv)
theorem x_lookup (C0 : Cx G p s m args c cc nL own) {dflt : Int} {ps : Array (Int × Int)} {len : Nat} {x : Int32} {off : Int} {tgt : Nat} (hdg : decode cc pc = .ok (.lookupswitch dflt ps, len)) (hp : (ps.toList.zip (ps.toList.drop 1)).all (fun (a, next) => a.1 < next.1) = true) (ho : Op.lookupswitch.offset ps.toList dflt x.toInt = off) (ht : (pc : Int) + off = (tgt : Int)) (k : WG p l e R s m args below meth c cells slots Q G nL lv tgt st h) : WG p l e R s m args below meth c cells slots Q G nL lv pc (.int x :: st) h := fun H locs ls hw hv => lv_lookup C0.ex C0.by hdg hp ho ht (k H locs ls hw hv)
end MR
theorem Wd.blind {G : mG} {h : MH} {As : List Value} : FrameBlind (va_Pc As (Wd G h)) := fun a U g mk q => ⟨q.1, q.2.1, q.2.2.1, va_K.moved (u := U) (U := U.calling g mk a) (Vm.Alike.refl U.vm) q.2.2.2.1, m_St.same (u := U) (U := U.calling g mk a) rfl rfl q.2.2.2.2⟩
def FK (own : String) (index ci j : Nat) : Prop := ∃ (C : String) (T : u_T) (N : Nat), vwCl[ci]? = some (C, T, N) ∧ (∀ w ∈ u_ws C T N, w ∈ lw_good) ∧ j < N ∧ Cond.fieldLink own index (T j).1 (T j).2.1 (T j).2.2.1 ∈ lw_good
def PK (own : String) (index ci j : Nat) (ty : FieldType) (fin : Bool) : Prop := ∃ (C : String) (T : u_T) (N : Nat), vwCl[ci]? = some (C, T, N) ∧ (∀ w ∈ u_ws C T N, w ∈ lw_good) ∧ j < N ∧ Cond.fieldLink own index (T j).1 (T j).2.1 (T j).2.2.1 ∈ lw_good ∧
  (∃ ty0 : Nat → FieldType, ∀ k, k < N → parseFieldDescriptor (T k).2.2.1 = some (ty0 k)) ∧ (∀ a, a < N → ∀ b, b < N → a ≠ b → (T a).2.1 ≠ (T b).2.1) ∧ (T j).2.2.2 = fin ∧ parseFieldDescriptor (T j).2.2.1 = some ty ∧ (fin = true → (T j).1 = own)
section MS
variable {p : Program} {l : Launch} {e : Env} {R : Room} {s : State} {m : MethodId} {args : Array Value} {below : List Frame} {meth : Method} {c : Code} {cells slots : Nat} {Q : State → Prop} {G : mG} {cc : ByteArray} {nL : Nat} {own : String} {lv : List (Nat × Value)} {pc : Nat} {st : List Value} {h : MH}
theorem Wo.toWd (C0 : Cx G p s m args c cc nL own) {H : Heap} {locs : List Loc} (hw : Wo G s h H locs) (U : State) (hU : U.heap = H) (hW : s.WarmedH U.vm) : Wd G h U := ⟨by rw [hU]; exact hw.1, by rw [hU]; exact hw.2.1, va_K.moved hW.alike C0.K, by rw [hU]; exact m_St.kept (m_St.warm hW C0.St) hw.2.2.2.1⟩
theorem Wo.put {H H1 : Heap} {locs : List Loc} {k j : Nat} {x : MC} (hw : Wo G s h H locs) (hk : k < h.1) (hat : va_at G.1 vwCl (m_b G + k, trC (m_b G) G.2.1 x) H1) (z : H1.size = H.size) (oq : ∀ q : Nat, q ≠ m_b G + k → H1[q]? = H[q]?) : Wo G s (mset h k x) H1 (locs ++ [⟨m_b G + k, j⟩]) := ⟨by rw [← wl_set G hk x]; exact hw.1.set (wl_D G h) (wl_get G hk) hat oq, by rw [z]; exact hw.2.1, hw.2.2.put z oq (Nat.le_add_right _ _)⟩
theorem Wo.new {H H1 : Heap} {locs : List Loc} {x : MC} (C0 : Cx G p s m args c cc nL own) (hw : Wo G s h H locs) (hat : va_at G.1 vwCl (m_b G + h.1, trC (m_b G) G.2.1 x) H1) (z : H1.size = H.size + 1) (oq : ∀ q : Nat, q < H.size → H1[q]? = H[q]?) : Wo G s (mnew h x) H1 locs := by
  refine ⟨?_, by rw [z, hw.2.1]; exact Nat.add_assoc _ _ _, Nat.le_trans hw.2.2.1 (by omega), fun q h1 h2 => (oq q (Nat.lt_of_lt_of_le h1 hw.2.2.1)).trans (hw.2.2.2.1 q h1 h2), hw.2.2.2.2⟩
  rw [← wl_push]
  refine (hw.1.kept (fun k q hq => oq q.1 ((hw.1 k q hq).lt))).app (fun k q hq => ?_)
  have hz : k < 1 := (List.getElem?_eq_some_iff.mp hq).1
  rw [show k = 0 by omega] at hq
  cases hq
  exact hat
theorem x_get (C0 : Cx G p s m args c cc nL own) {index ci j k : Nat} {x : MV} (hk : FK own index ci j) (hg : gF h k ci j = some x) (hdg : decode cc pc = .ok (.getfield index, 3)) (kk : WG p l e R s m args below meth c cells slots Q G nL lv (pc + 3) (trV (m_b G) x :: st) h) : WG p l e R s m args below meth c cells slots Q G nL lv pc (.ref (m_b G + k) :: st) h := by
  intro H locs ls hw hv
  obtain ⟨C, T, N, hc, hin, hj, hl⟩ := hk
  obtain ⟨hk, fs, he, hf⟩ := gF_spec hg
  refine va_get (D := G.1) (ci := ci) (C := C) (T := T) (N := N) C0.ex C0.by C0.ts hin C0.ow C0.K hw.1 k (fs := fs.map (trV (m_b G))) ?_ hc j hj (C0.ts _ hl) (fun _ h9 => h9) ?_ hdg (kk H locs ls hw hv)
  · rw [wl_get G hk, he]; rfl
  · rw [List.getElem?_map, hf]; rfl
theorem x_getI (C0 : Cx G p s m args c cc nL own) {index ci j k : Nat} {x : Int32} (hk : FK own index ci j) (hg : gF h k ci j = some (.inl x)) (hdg : decode cc pc = .ok (.getfield index, 3)) (kk : WG p l e R s m args below meth c cells slots Q G nL lv (pc + 3) (.int x :: st) h) : WG p l e R s m args below meth c cells slots Q G nL lv pc (.ref (m_b G + k) :: st) h := x_get C0 hk hg hdg kk
theorem x_getR (C0 : Cx G p s m args c cc nL own) {index ci j k x : Nat} (hk : FK own index ci j) (hg : gF h k ci j = some (.inr (some x))) (hdg : decode cc pc = .ok (.getfield index, 3)) (kk : WG p l e R s m args below meth c cells slots Q G nL lv (pc + 3) (.ref (m_b G + x) :: st) h) : WG p l e R s m args below meth c cells slots Q G nL lv pc (.ref (m_b G + k) :: st) h := x_get C0 hk hg hdg kk
theorem fset_eq {h : MH} {k ci j : Nat} {fs : List MV} (x : MV) (he : h.2 k = .inl (ci, fs)) : fset h k j x = mset h k (.inl (ci, fs.set j x)) := by
  unfold fset; rw [he]
theorem x_put (C0 : Cx G p s m args c cc nL own) {index ci j k : Nat} {ty : FieldType} {x x0 : MV} (hk : PK own index ci j ty false) (hg : gF h k ci j = some x0) (hn : narrow ty (trV (m_b G) x) = trV (m_b G) x) (hfit : fits ty (trV (m_b G) x) = true) (hdg : decode cc pc = .ok (.putfield index, 3)) (kk : WG p l e R s m args below meth c cells slots Q G nL lv (pc + 3) st (fset h k j x)) : WG p l e R s m args below meth c cells slots Q G nL lv pc (trV (m_b G) x :: .ref (m_b G + k) :: st) h := by
  intro H locs ls hw hv
  obtain ⟨C, T, N, hc, hin, hj, hl, ⟨ty0, hty⟩, hnm, hfin, hd, -⟩ := hk
  obtain ⟨hk, fs, he, hf⟩ := gF_spec hg
  have hlen : j < fs.length := (List.getElem?_eq_some_iff.mp hf).1
  have e0 : (wl G h)[k]? = some (m_b G + k, .inr (ci, fs.map (trV (m_b G)))) := by rw [wl_get G hk, he]; rfl
  rw [fset_eq x he] at kk
  have hap := va_apart (own := own) C0.ts hin ty0 hty hnm C0.K hc
  obtain ⟨r, h1, cell, q1, q2, q3, q4⟩ := hw.1 k _ e0
  have hr : r = (C, T, N) := Option.some.inj (h1.symm.trans hc)
  subst hr
  obtain ⟨hS, hfc, kC, hkC, hkind⟩ := C0.K.1 ci _ hc
  obtain ⟨cf, kf, fi, f, hi, hsl⟩ := hS j hj
  have hlay := C0.ts _ (hin _ (u_in_lay hj))
  unfold u_lay at hlay
  rw [if_neg (by rw [hfin]; decide)] at hlay
  have hst := (u_facts hfc hkC (u_lays C0.ts hin hj) hi).1
  have h6 := u_store hfc hkC hkind hlay hi hd hn hfit
  refine W.putK C0.ex C0.by (f := f) ⟨C0.ow, C0.ts _ hl, ⟨_, _, _, hi⟩, hst⟩ (by rw [q2]; exact h6) q1 q3 (by rw [hsl]; exact k2_hasslot (q4 j hj)) rfl rfl hdg fun H' e1 e2 e3 => ?_
  rw [hsl] at e1 ⊢
  refine kk H' _ ls (hw.put hk ?_ e2 e3) hv
  refine ⟨_, hc, ?_⟩
  show t_OB _ _ _ _ _ (vp_V ((fs.set j x).map (trV (m_b G))))
  rw [List.map_set]
  exact t_OB.to (V := updV (vp_V (fs.map (trV (m_b G)))) j (trV (m_b G) x)) ⟨_, e1, q2, q3, t_set q4 hap hj _⟩ (fun i _ => vp_updV_set (by rw [List.length_map]; exact hlen) _ i)
theorem x_putF (C0 : Cx G p s m args c cc nL own) {index ci j k : Nat} {ty : FieldType} {x x0 : MV} (hk : PK own index ci j ty true) (hin2 : meth.name = "<init>") (hg : gF h k ci j = some x0) (hn : narrow ty (trV (m_b G) x) = trV (m_b G) x) (hfit : fits ty (trV (m_b G) x) = true) (hdg : decode cc pc = .ok (.putfield index, 3)) (kk : WG p l e R s m args below meth c cells slots Q G nL lv (pc + 3) st (fset h k j x)) : WG p l e R s m args below meth c cells slots Q G nL lv pc (trV (m_b G) x :: .ref (m_b G + k) :: st) h := by
  intro H locs ls hw hv
  obtain ⟨C, T, N, hc, hin, hj, hl, ⟨ty0, hty⟩, hnm, hfin, hd, hdecl⟩ := hk
  obtain ⟨hk, fs, he, hf⟩ := gF_spec hg
  have hlen : j < fs.length := (List.getElem?_eq_some_iff.mp hf).1
  have e0 : (wl G h)[k]? = some (m_b G + k, .inr (ci, fs.map (trV (m_b G)))) := by rw [wl_get G hk, he]; rfl
  rw [fset_eq x he] at kk
  have hap := va_apart (own := own) C0.ts hin ty0 hty hnm C0.K hc
  obtain ⟨r, h1, cell, q1, q2, q3, q4⟩ := hw.1 k _ e0
  have hr : r = (C, T, N) := Option.some.inj (h1.symm.trans hc)
  subst hr
  obtain ⟨hS, hfc, kC, hkC, hkind⟩ := C0.K.1 ci _ hc
  obtain ⟨cf, kf, fi, f, hi, hsl⟩ := hS j hj
  have hlay := C0.ts _ (hin _ (u_in_lay hj))
  unfold u_lay at hlay
  rw [if_pos hfin] at hlay
  have hst := (u_facts hfc hkC (u_lays C0.ts hin hj) hi).1
  have hcf : m.cls = cf := by
    obtain ⟨_, _, c', _, _, _, -, -, hf', -, -, -, hown2, -⟩ := Cond.laysFinal_spec hlay
    have e1 : c' = cf := by have := hi.symm.trans hf'; simp at this; exact this.1.symm
    rw [hdecl rfl] at hown2
    rw [← e1]; exact Option.some.inj (C0.ow.symm.trans hown2)
  have h6 := u_fits hfc hkC hkind (Or.inr hlay) hi hd hn hfit
  refine W.putFinK C0.ex C0.by C0.ow (C0.ts _ hl) hi hst hcf hin2 (by rw [q2]; exact h6) q1 q3 (by rw [hsl]; exact k2_hasslot (q4 j hj)) rfl rfl hdg fun H' e1 e2 e3 => ?_
  rw [hsl] at e1 ⊢
  refine kk H' _ ls (hw.put hk ?_ e2 e3) hv
  refine ⟨_, hc, ?_⟩
  show t_OB _ _ _ _ _ (vp_V ((fs.set j x).map (trV (m_b G))))
  rw [List.map_set]
  exact t_OB.to (V := updV (vp_V (fs.map (trV (m_b G)))) j (trV (m_b G) x)) ⟨_, e1, q2, q3, t_set q4 hap hj _⟩ (fun i _ => vp_updV_set (by rw [List.length_map]; exact hlen) _ i)
theorem x_ald0 {k t n : Nat} {f : Nat → Int32} (hg : gA h k t = some (n, f)) : k < h.1 ∧ (wl G h)[k]? = some (m_b G + k, .inl (G.2.1 t, n, .inl f)) := by
  obtain ⟨hk, he⟩ := gA_spec hg
  exact ⟨hk, by rw [wl_get G hk, he]; rfl⟩
theorem x_iald (C0 : Cx G p s m args c cc nL own) {k n : Nat} {f : Nat → Int32} {i : Int32} (hg : gA h k 0 = some (n, f)) (hin : vp_in i n) (hdg : decode cc pc = .ok (.iaload, 1)) (kk : WG p l e R s m args below meth c cells slots Q G nL lv (pc + 1) (.int (f i.toNatClampNeg) :: st) h) : WG p l e R s m args below meth c cells slots Q G nL lv pc (.int i :: .ref (m_b G + k) :: st) h := fun H locs ls hw hv => va_iald (D := G.1) C0.ex C0.by C0.K hw.1 k 0 (x_ald0 hg).2 rfl hin hdg (kk H locs ls hw hv)
theorem x_zald (C0 : Cx G p s m args c cc nL own) {k n : Nat} {f : Nat → Int32} {i : Int32} (hg : gA h k 1 = some (n, f)) (hin : vp_in i n) (hdg : decode cc pc = .ok (.baload, 1)) (kk : WG p l e R s m args below meth c cells slots Q G nL lv (pc + 1) (.int (f i.toNatClampNeg) :: st) h) : WG p l e R s m args below meth c cells slots Q G nL lv pc (.int i :: .ref (m_b G + k) :: st) h := fun H locs ls hw hv => va_zald (D := G.1) C0.ex C0.by C0.K hw.1 k 1 (x_ald0 hg).2 rfl hin hdg (kk H locs ls hw hv)
theorem x_alen (C0 : Cx G p s m args c cc nL own) {k t n : Nat} {ty : FieldType} {f : Nat → Int32} (hg : gA h k t = some (n, f)) (ht : (m_tys G)[t]? = some (G.2.1 t, ty)) (hdg : decode cc pc = .ok (.arraylength, 1)) (kk : WG p l e R s m args below meth c cells slots Q G nL lv (pc + 1) (.int (nI n) :: st) h) : WG p l e R s m args below meth c cells slots Q G nL lv pc (.ref (m_b G + k) :: st) h := fun H locs ls hw hv => va_alen (D := G.1) C0.ex C0.by C0.K hw.1 k t (x_ald0 hg).2 ht rfl hdg (kk H locs ls hw hv)
theorem x_iast (C0 : Cx G p s m args c cc nL own) {k n : Nat} {f : Nat → Int32} {i x : Int32} (hg : gA h k 0 = some (n, f)) (hin : vp_in i n) (hdg : decode cc pc = .ok (.iastore, 1)) (kk : WG p l e R s m args below meth c cells slots Q G nL lv (pc + 1) st (mset h k (.inr (0, n, .inl (upd f i.toNatClampNeg x))))) : WG p l e R s m args below meth c cells slots Q G nL lv pc (.int x :: .int i :: .ref (m_b G + k) :: st) h := by
  intro H locs ls hw hv
  obtain ⟨hk, ha⟩ := x_ald0 (G := G) hg
  refine W.iast C0.ex C0.by (hw.1 k _ ha) ((C0.K.2 0 _ rfl).1 n (fun j => .int (f j))) (fun q => by cases q) (by show ¬ (i < 0 ∨ (arrV _ _ _).slots.size ≤ _); rw [arrV_size]; exact hin) rfl rfl hdg fun H1 e z oq => ?_
  refine kk H1 _ ls (hw.put hk ?_ z oq) hv
  show H1[m_b G + k]? = some (vp_cell (G.2.1 0) (n, .inl (upd f i.toNatClampNeg x)))
  rw [e, vp_cell_i, vp_cell_i, arrV_store]
  congr 2
  funext q
  by_cases hq : q = i.toNatClampNeg
  · subst hq
    simp [updV, upd]
  · simp [updV, upd, hq]
theorem x_zast (C0 : Cx G p s m args c cc nL own) {k n : Nat} {f : Nat → Int32} {i x : Int32} (hg : gA h k 1 = some (n, f)) (hin : vp_in i n) (hdg : decode cc pc = .ok (.bastore, 1)) (kk : WG p l e R s m args below meth c cells slots Q G nL lv (pc + 1) st (mset h k (.inr (1, n, .inl (upd f i.toNatClampNeg (vp_nar .boolean x)))))) : WG p l e R s m args below meth c cells slots Q G nL lv pc (.int x :: .int i :: .ref (m_b G + k) :: st) h := by
  intro H locs ls hw hv
  obtain ⟨hk, ha⟩ := x_ald0 (G := G) hg
  refine W.zast C0.ex C0.by (hw.1 k _ ha) ((C0.K.2 1 _ rfl).1 n (fun j => .int (f j))) (fun q => by cases q) (by show ¬ (i < 0 ∨ (arrV _ _ _).slots.size ≤ _); rw [arrV_size]; exact hin) rfl rfl hdg fun H1 e z oq => ?_
  refine kk H1 _ ls (hw.put hk ?_ z oq) hv
  show H1[m_b G + k]? = some (vp_cell (G.2.1 1) (n, .inl (upd f i.toNatClampNeg (vp_nar .boolean x))))
  rw [e, vp_cell_i, vp_cell_i, arrV_store]
  congr 2
  funext q
  by_cases hq : q = i.toNatClampNeg
  · subst hq
    simp [updV, upd, vp_nar]
    try rfl
  · simp [updV, upd, hq]
theorem x_ald2 {k t n : Nat} {f : Nat → Int64} (hg : gL h k t = some (n, f)) : k < h.1 ∧ (wl G h)[k]? = some (m_b G + k, .inl (G.2.1 t, n, .inr (.inl f))) := by
  obtain ⟨hk, he⟩ := gL_spec hg
  exact ⟨hk, by rw [wl_get G hk, he]; rfl⟩
theorem x_lald (C0 : Cx G p s m args c cc nL own) {k n : Nat} {f : Nat → Int64} {i : Int32} (hg : gL h k 2 = some (n, f)) (hin : vp_in i n) (hdg : decode cc pc = .ok (.laload, 1)) (kk : WG p l e R s m args below meth c cells slots Q G nL lv (pc + 1) (.long (f i.toNatClampNeg) :: st) h) : WG p l e R s m args below meth c cells slots Q G nL lv pc (.int i :: .ref (m_b G + k) :: st) h := fun H locs ls hw hv => va_lald (D := G.1) C0.ex C0.by C0.K hw.1 k 2 (x_ald2 hg).2 rfl hin hdg (kk H locs ls hw hv)
theorem x_last (C0 : Cx G p s m args c cc nL own) {k n : Nat} {f : Nat → Int64} {i : Int32} {x : Int64} (hg : gL h k 2 = some (n, f)) (hin : vp_in i n) (hdg : decode cc pc = .ok (.lastore, 1)) (kk : WG p l e R s m args below meth c cells slots Q G nL lv (pc + 1) st (mset h k (.inr (2, n, .inr (.inl (vp_updL f i.toNatClampNeg x)))))) : WG p l e R s m args below meth c cells slots Q G nL lv pc (.long x :: .int i :: .ref (m_b G + k) :: st) h := by
  intro H locs ls hw hv
  obtain ⟨hk, ha⟩ := x_ald2 (G := G) hg
  refine W.last C0.ex C0.by (hw.1 k _ ha) ((C0.K.2 2 _ rfl).1 n (fun j => .long (f j))) (fun q => by cases q) (by show ¬ (i < 0 ∨ (arrV _ _ _).slots.size ≤ _); rw [arrV_size]; exact hin) rfl rfl hdg fun H1 e z oq => ?_
  refine kk H1 _ ls (hw.put hk ?_ z oq) hv
  show H1[m_b G + k]? = some (vp_cell (G.2.1 2) (n, .inr (.inl (vp_updL f i.toNatClampNeg x))))
  rw [e, vp_cell_l, vp_cell_l, arrV_store]
  congr 2
  funext q
  by_cases hq : q = i.toNatClampNeg
  · subst hq
    simp [updV, vp_updL]
  · simp [updV, vp_updL, hq]
theorem x_ald1 {k t n : Nat} {f : Nat → Option Nat} (hg : gR h k t = some (n, f)) : k < h.1 ∧ (wl G h)[k]? = some (m_b G + k, .inl (G.2.1 t, n, .inr (.inr (.inr (.inr (fun j => m_r (m_b G) (f j))))))) := by
  obtain ⟨hk, he⟩ := gR_spec hg
  exact ⟨hk, by rw [wl_get G hk, he]; rfl⟩
theorem x_aald (C0 : Cx G p s m args c cc nL own) {k t n q : Nat} {C : String} {f : Nat → Option Nat} {i : Int32} (hg : gR h k t = some (n, f)) (ht : (m_tys G)[t]? = some (G.2.1 t, .object C)) (hin : vp_in i n) (hq : f i.toNatClampNeg = some q) (hdg : decode cc pc = .ok (.aaload, 1)) (kk : WG p l e R s m args below meth c cells slots Q G nL lv (pc + 1) (.ref (m_b G + q) :: st) h) : WG p l e R s m args below meth c cells slots Q G nL lv pc (.int i :: .ref (m_b G + k) :: st) h := by
  intro H locs ls hw hv
  refine va_aldq (D := G.1) C0.ex C0.by C0.K hw.1 k t (x_ald1 hg).2 ht hin hdg ?_
  rw [hq]
  exact kk H locs ls hw hv
theorem x_aast (C0 : Cx G p s m args c cc nL own) {k t n q ci : Nat} {C : String} {T : u_T} {N : Nat} {f : Nat → Option Nat} {i : Int32} (hg : gR h k t = some (n, f)) (hc : vwCl[ci]? = some (C, T, N)) (ht : (m_tys G)[t]? = some (G.2.1 t, .object C)) (hin : vp_in i n) (hq : gC h q = some ci) (hdg : decode cc pc = .ok (.aastore, 1)) (kk : WG p l e R s m args below meth c cells slots Q G nL lv (pc + 1) st (mset h k (.inr (t, n, .inr (.inr (va_up f i.toNatClampNeg (some q))))))) : WG p l e R s m args below meth c cells slots Q G nL lv pc (.ref (m_b G + q) :: .int i :: .ref (m_b G + k) :: st) h := by
  intro H locs ls hw hv
  obtain ⟨hk, ha⟩ := x_ald1 (G := G) hg
  obtain ⟨hk2, fs, he⟩ := gC_spec hq
  have e0 : (wl G h)[q]? = some (m_b G + q, .inr (ci, fs.map (trV (m_b G)))) := by rw [wl_get G hk2, he]; rfl
  have hlt : i.toNatClampNeg < n := Nat.not_le.mp fun q => hin (Or.inr q)
  have h0 : ¬ i < 0 := fun q => hin (Or.inl q)
  obtain ⟨r', hr', cellV, g1, g2, g3, -⟩ := hw.1 q _ e0
  have hcls := (C0.K.1 ci _ hc).2
  obtain ⟨kA, comp, k1, k2, k3, -⟩ := (C0.K.2 t _ ht).2
  have hcomp : comp = G.1.1 ci := Option.some.inj (k3.symm.trans hcls.1)
  subst hcomp
  obtain ⟨kC, hkC, -⟩ := hcls.2
  refine W.aast C0.ex C0.by (hw.1 k _ ha) (fun q h => by cases h) (fun h => by cases h) k1 k2 rfl hkC ⟨h0, by show _ < (arrV _ _ _).slots.size; rw [arrV_size]; exact hlt⟩ g1 (fun q h => by rw [g3] at h; cases h) (by rw [g2]; exact hkC) (by rw [g2]; exact va_assign hcls) rfl rfl hdg fun H1 e z oq => ?_
  refine kk H1 _ ls (hw.put hk ?_ z oq) hv
  show H1[m_b G + k]? = some (vp_cell (G.2.1 t) (n, .inr (.inr (.inr (.inr (fun j => m_r (m_b G) (va_up f i.toNatClampNeg (some q) j)))))))
  rw [e, vp_cell_q, vp_cell_q, arrV_store]
  congr 2
  funext z
  by_cases hz : z = i.toNatClampNeg
  · subst hz
    simp [updV, va_up, va_rf, m_r]
  · simp [updV, va_up, hz]
end MS
def MK (y : MethodName) (bytes : ByteArray) (maxL : Nat) (ret : Option FieldType) (n : Nat) : Prop := Cond.code y bytes maxL ret ∈ lw_good ∧ Cond.initialized y.cls ∈ lw_good ∧ y.cls ≠ "java/lang/invoke/MethodHandle" ∧ y.cls ≠ "java/lang/invoke/VarHandle" ∧ (parseMethodDescriptor y.desc).map (fun d => d.parameters.length) = some n
def VK (y : MethodName) : Prop := Cond.instanceMethod y ∈ lw_good ∧ Cond.selects y.cls y y ∈ lw_good
theorem lw_cons {w : Cond} (hw : w ∈ lw_good) : GoodIn lw_good (w :: lw_good) := by
  intro x hx
  rcases List.mem_cons.mp hx with rfl | hx
  · exact ⟨hw, lw_good_ok _ hw⟩
  · exact ⟨hx, lw_good_ok _ hx⟩
section MT
variable {p : Program} {l : Launch} {e : Env} {R : Room} {s : State} {m : MethodId} {args : Array Value} {below : List Frame} {meth : Method} {c : Code} {cells slots : Nat} {Q : State → Prop} {G : mG} {cc : ByteArray} {nL : Nat} {own : String} {lv : List (Nat × Value)} {pc : Nat} {st st0 : List Value} {h : MH}
variable {y : MethodName} {bytes : ByteArray} {maxL index n mc ms ci k : Nat} {ret : Option FieldType} {rm : Room} {As : List Value}
theorem ck_B (C0 : Cx G p s m args c cc nL own) (hl : Cond.methodLink own index y ∈ lw_good) (mk : MK y bytes maxL ret n) (hrc : rm.cells = mc) (hrs : rm.slots = ms) (hR : rm.frames + 1 ≤ R.frames ∧ 8 + (maxL + 11) + rm.locals ≤ R.locals) : CallB R s args own index y bytes maxL ret (Cond.code y bytes maxL ret :: lw_good) rm mc ms n := callB_of n C0.ts (lw_cons mk.1) rfl hrc hrs (C0.ts _ mk.2.1) (C0.ts _ hl) mk.2.2 hR
theorem ck_N (C0 : Cx G p s m args c cc nL own) {host : String} (hl : va_Nw (.methodLinkNest own index y host) s) (mk : MK y bytes maxL ret n) (hrc : rm.cells = mc) (hrs : rm.slots = ms) (hR : rm.frames + 1 ≤ R.frames ∧ 8 + (maxL + 11) + rm.locals ≤ R.locals) : va_CN R s args own index y host bytes maxL ret (Cond.code y bytes maxL ret :: lw_good) rm mc ms n := va_cnB n C0.ts (lw_cons mk.1) rfl hrc hrs hl (C0.ts _ mk.2.1) mk.2.2 hR
theorem x_rcv {H : Heap} {locs : List Loc} (C0 : Cx G p s m args c cc nL own) (hw : Wo G s h H locs) {C : String} {T : u_T} {N : Nat} (hcl : vwCl[ci]? = some (C, T, N)) (hc : gC h k = some ci) : ∃ cell : Cell, H[m_b G + k]? = some cell ∧ cell.vm.isStatics = false ∧ s.vm.findClass C = some cell.cls := by
  obtain ⟨hk, fs, he⟩ := gC_spec hc
  exact va_recv (q := (C, T, N)) C0.K hw.1 hcl (show (wl G h)[k]? = some (m_b G + k, .inr (ci, fs.map (trV (m_b G)))) by rw [wl_get G hk, he]; rfl)
theorem x_fini {Post : Int32 → MH → Prop} {a : Array Value} (hrun : ∀ (H : Heap) (locs : List Loc) (ls : Array Slot), Wo G s h H locs → lv_has ls nL lv → va_Run p l e R s m args below meth c H locs cells slots mc ms (F0 m pc ls st0) st (va_Qi Post (Wd G) (mA G) a) (mA G)) (kk : ∀ (r : Int32) (h2 : MH), Post r h2 → WG p l e R s m args below meth c (cells + mc) (slots + ms) Q G nL lv (pc + 3) (.int r :: st) h2) : WG p l e R s m args below meth c cells slots Q G nL lv pc st0 h := by
  intro H locs ls hw hv
  refine va_calli (hrun H locs ls hw hv) hw.2.2 (fun q _ h => h) (fun q h => h) (fun r u t H1 locs1 ht hvm hp hB hz hk hS => ?_)
  subst ht
  exact kk r u hp _ _ ls ⟨hB.1, hB.2.1, hS⟩ hv
theorem x_finv {Post : MH → Prop} {a : Array Value} (hrun : ∀ (H : Heap) (locs : List Loc) (ls : Array Slot), Wo G s h H locs → lv_has ls nL lv → va_Run p l e R s m args below meth c H locs cells slots mc ms (F0 m pc ls st0) st (va_Qv Post (Wd G) (mA G) a) (mA G)) (kk : ∀ h2 : MH, Post h2 → WG p l e R s m args below meth c (cells + mc) (slots + ms) Q G nL lv (pc + 3) (st) h2) : WG p l e R s m args below meth c cells slots Q G nL lv pc st0 h := by
  intro H locs ls hw hv
  refine va_callv (hrun H locs ls hw hv) hw.2.2 (fun q _ h => h) (fun q h => h) (fun u t H1 locs1 ht hvm hp hB hz hk hS => ?_)
  subst ht
  exact kk u hp _ _ ls ⟨hB.1, hB.2.1, hS⟩ hv
theorem x_finr {Post : Nat → MH → Prop} {a : Array Value} (hrun : ∀ (H : Heap) (locs : List Loc) (ls : Array Slot), Wo G s h H locs → lv_has ls nL lv → va_Run p l e R s m args below meth c H locs cells slots mc ms (F0 m pc ls st0) st (va_Qr (fun u : Nat × MH => Post u.1 u.2) (fun u a t => a = m_b G + u.1 ∧ Wd G u.2 t) (mA G) a) (mA G)) (kk : ∀ (r : Nat) (h2 : MH), Post r h2 → WG p l e R s m args below meth c (cells + mc) (slots + ms) Q G nL lv (pc + 3) (.ref (m_b G + r) :: st) h2) : WG p l e R s m args below meth c cells slots Q G nL lv pc st0 h := by
  intro H locs ls hw hv
  refine va_callr (hrun H locs ls hw hv) hw.2.2 (fun q _ h => h) (fun q h => h) (fun u ra t H1 locs1 ht hvm hp hB hz hk hS => ?_)
  subst ht
  obtain ⟨rfl, hB⟩ := hB
  exact kk u.1 u.2 hp _ _ ls ⟨hB.1, hB.2.1, hS⟩ hv
theorem x_callVi (C0 : Cx G p s m args c cc nL own) {Post : Int32 → MH → Prop} {T : u_T} {N : Nat} (hM : Met l y (Cond.code y bytes maxL ret :: lw_good) rm (va_Pc (.ref (m_b G + k) :: As) (Wd G h)) (va_Qi Post (Wd G) (mA G)) mc ms (mA G)) (hl : Cond.methodLink own index y ∈ lw_good) (mk : MK y bytes maxL ret n) (vk : VK y) (hcl : vwCl[ci]? = some (y.cls, T, N)) (hc : gC h k = some ci) (hn : As.length = n) (hW : (st.map fun v => v.category).sum ≤ 8) (hrc : rm.cells = mc) (hrs : rm.slots = ms) (hR : rm.frames + 1 ≤ R.frames ∧ 8 + (maxL + 11) + rm.locals ≤ R.locals) (hf : cells + mc ≤ R.cells ∧ slots + ms ≤ R.slots) (hst : st0 = As.reverse ++ .ref (m_b G + k) :: st) (hdg : decode cc pc = .ok (.invokevirtual index, 3)) (kk : ∀ (r : Int32) (h2 : MH), Post r h2 → WG p l e R s m args below meth c (cells + mc) (slots + ms) Q G nL lv (pc + 3) (.int r :: st) h2) : WG p l e R s m args below meth c cells slots Q G nL lv pc st0 h :=
  x_fini (fun H locs ls hw hv => va_runV (As := As) (rest := st) C0.1 hM ⟨ck_B C0 hl mk hrc hrs hR, C0.ts _ vk.1, C0.ts _ vk.2⟩ ⟨Wd.blind, x_rcv C0 hw hcl hc, fun U hU hW => ⟨rfl, hw.toWd C0 U hU hW⟩⟩ rfl hn hv.1 hst (lv_room hW) hdg hf) kk
theorem x_callVNi (C0 : Cx G p s m args c cc nL own) {Post : Int32 → MH → Prop} {host : String} {T : u_T} {N : Nat} (hM : Met l y (Cond.code y bytes maxL ret :: lw_good) rm (va_Pc (.ref (m_b G + k) :: As) (Wd G h)) (va_Qi Post (Wd G) (mA G)) mc ms (mA G)) (hl : va_Nw (.methodLinkNest own index y host) s) (mk : MK y bytes maxL ret n) (vk : VK y) (hcl : vwCl[ci]? = some (y.cls, T, N)) (hc : gC h k = some ci) (hn : As.length = n) (hW : (st.map fun v => v.category).sum ≤ 8) (hrc : rm.cells = mc) (hrs : rm.slots = ms) (hR : rm.frames + 1 ≤ R.frames ∧ 8 + (maxL + 11) + rm.locals ≤ R.locals) (hf : cells + mc ≤ R.cells ∧ slots + ms ≤ R.slots) (hst : st0 = As.reverse ++ .ref (m_b G + k) :: st) (hdg : decode cc pc = .ok (.invokevirtual index, 3)) (kk : ∀ (r : Int32) (h2 : MH), Post r h2 → WG p l e R s m args below meth c (cells + mc) (slots + ms) Q G nL lv (pc + 3) (.int r :: st) h2) : WG p l e R s m args below meth c cells slots Q G nL lv pc st0 h :=
  x_fini (fun H locs ls hw hv => va_runVN (As := As) (rest := st) C0.1 hM ⟨ck_N C0 hl mk hrc hrs hR, C0.ts _ vk.1, C0.ts _ vk.2⟩ ⟨Wd.blind, x_rcv C0 hw hcl hc, fun U hU hW => ⟨rfl, hw.toWd C0 U hU hW⟩⟩ rfl hn hv.1 hst (lv_room hW) hdg hf) kk
theorem x_callSi (C0 : Cx G p s m args c cc nL own) {Post : Int32 → MH → Prop} (hM : Met l y (Cond.code y bytes maxL ret :: lw_good) rm (va_Pc (As) (Wd G h)) (va_Qi Post (Wd G) (mA G)) mc ms (mA G)) (hl : Cond.methodLink own index y ∈ lw_good) (mk : MK y bytes maxL ret n) (sk : Cond.static y ∈ lw_good) (hn : As.length = n) (hW : (st.map fun v => v.category).sum ≤ 8) (hrc : rm.cells = mc) (hrs : rm.slots = ms) (hR : rm.frames + 1 ≤ R.frames ∧ 8 + (maxL + 11) + rm.locals ≤ R.locals) (hf : cells + mc ≤ R.cells ∧ slots + ms ≤ R.slots) (hst : st0 = As.reverse ++ st) (hdg : decode cc pc = .ok (.invokestatic index, 3)) (kk : ∀ (r : Int32) (h2 : MH), Post r h2 → WG p l e R s m args below meth c (cells + mc) (slots + ms) Q G nL lv (pc + 3) (.int r :: st) h2) : WG p l e R s m args below meth c cells slots Q G nL lv pc st0 h :=
  x_fini (fun H locs ls hw hv => va_runS (As := As) (rest := st) C0.1 hM ⟨ck_B C0 hl mk hrc hrs hR, C0.ts _ sk⟩ ⟨Wd.blind, fun U hU hW => ⟨rfl, hw.toWd C0 U hU hW⟩⟩ rfl hn hv.1 hst (lv_room hW) hdg hf) kk
theorem x_callSNi (C0 : Cx G p s m args c cc nL own) {Post : Int32 → MH → Prop} {host : String} (hM : Met l y (Cond.code y bytes maxL ret :: lw_good) rm (va_Pc (As) (Wd G h)) (va_Qi Post (Wd G) (mA G)) mc ms (mA G)) (hl : va_Nw (.methodLinkNest own index y host) s) (mk : MK y bytes maxL ret n) (sk : Cond.static y ∈ lw_good) (hn : As.length = n) (hW : (st.map fun v => v.category).sum ≤ 8) (hrc : rm.cells = mc) (hrs : rm.slots = ms) (hR : rm.frames + 1 ≤ R.frames ∧ 8 + (maxL + 11) + rm.locals ≤ R.locals) (hf : cells + mc ≤ R.cells ∧ slots + ms ≤ R.slots) (hst : st0 = As.reverse ++ st) (hdg : decode cc pc = .ok (.invokestatic index, 3)) (kk : ∀ (r : Int32) (h2 : MH), Post r h2 → WG p l e R s m args below meth c (cells + mc) (slots + ms) Q G nL lv (pc + 3) (.int r :: st) h2) : WG p l e R s m args below meth c cells slots Q G nL lv pc st0 h :=
  x_fini (fun H locs ls hw hv => va_runSN (As := As) (rest := st) C0.1 hM ⟨ck_N C0 hl mk hrc hrs hR, C0.ts _ sk, trivial⟩ ⟨Wd.blind, fun U hU hW => ⟨rfl, hw.toWd C0 U hU hW⟩⟩ rfl hn hv.1 hst (lv_room hW) hdg hf) kk
theorem x_callVv (C0 : Cx G p s m args c cc nL own) {Post : MH → Prop} {T : u_T} {N : Nat} (hM : Met l y (Cond.code y bytes maxL ret :: lw_good) rm (va_Pc (.ref (m_b G + k) :: As) (Wd G h)) (va_Qv Post (Wd G) (mA G)) mc ms (mA G)) (hl : Cond.methodLink own index y ∈ lw_good) (mk : MK y bytes maxL ret n) (vk : VK y) (hcl : vwCl[ci]? = some (y.cls, T, N)) (hc : gC h k = some ci) (hn : As.length = n) (hW : (st.map fun v => v.category).sum ≤ 8) (hrc : rm.cells = mc) (hrs : rm.slots = ms) (hR : rm.frames + 1 ≤ R.frames ∧ 8 + (maxL + 11) + rm.locals ≤ R.locals) (hf : cells + mc ≤ R.cells ∧ slots + ms ≤ R.slots) (hst : st0 = As.reverse ++ .ref (m_b G + k) :: st) (hdg : decode cc pc = .ok (.invokevirtual index, 3)) (kk : ∀ h2 : MH, Post h2 → WG p l e R s m args below meth c (cells + mc) (slots + ms) Q G nL lv (pc + 3) (st) h2) : WG p l e R s m args below meth c cells slots Q G nL lv pc st0 h :=
  x_finv (fun H locs ls hw hv => va_runV (As := As) (rest := st) C0.1 hM ⟨ck_B C0 hl mk hrc hrs hR, C0.ts _ vk.1, C0.ts _ vk.2⟩ ⟨Wd.blind, x_rcv C0 hw hcl hc, fun U hU hW => ⟨rfl, hw.toWd C0 U hU hW⟩⟩ rfl hn hv.1 hst (lv_room hW) hdg hf) kk
theorem x_callVNv (C0 : Cx G p s m args c cc nL own) {Post : MH → Prop} {host : String} {T : u_T} {N : Nat} (hM : Met l y (Cond.code y bytes maxL ret :: lw_good) rm (va_Pc (.ref (m_b G + k) :: As) (Wd G h)) (va_Qv Post (Wd G) (mA G)) mc ms (mA G)) (hl : va_Nw (.methodLinkNest own index y host) s) (mk : MK y bytes maxL ret n) (vk : VK y) (hcl : vwCl[ci]? = some (y.cls, T, N)) (hc : gC h k = some ci) (hn : As.length = n) (hW : (st.map fun v => v.category).sum ≤ 8) (hrc : rm.cells = mc) (hrs : rm.slots = ms) (hR : rm.frames + 1 ≤ R.frames ∧ 8 + (maxL + 11) + rm.locals ≤ R.locals) (hf : cells + mc ≤ R.cells ∧ slots + ms ≤ R.slots) (hst : st0 = As.reverse ++ .ref (m_b G + k) :: st) (hdg : decode cc pc = .ok (.invokevirtual index, 3)) (kk : ∀ h2 : MH, Post h2 → WG p l e R s m args below meth c (cells + mc) (slots + ms) Q G nL lv (pc + 3) (st) h2) : WG p l e R s m args below meth c cells slots Q G nL lv pc st0 h :=
  x_finv (fun H locs ls hw hv => va_runVN (As := As) (rest := st) C0.1 hM ⟨ck_N C0 hl mk hrc hrs hR, C0.ts _ vk.1, C0.ts _ vk.2⟩ ⟨Wd.blind, x_rcv C0 hw hcl hc, fun U hU hW => ⟨rfl, hw.toWd C0 U hU hW⟩⟩ rfl hn hv.1 hst (lv_room hW) hdg hf) kk
theorem x_callSv (C0 : Cx G p s m args c cc nL own) {Post : MH → Prop} (hM : Met l y (Cond.code y bytes maxL ret :: lw_good) rm (va_Pc (As) (Wd G h)) (va_Qv Post (Wd G) (mA G)) mc ms (mA G)) (hl : Cond.methodLink own index y ∈ lw_good) (mk : MK y bytes maxL ret n) (sk : Cond.static y ∈ lw_good) (hn : As.length = n) (hW : (st.map fun v => v.category).sum ≤ 8) (hrc : rm.cells = mc) (hrs : rm.slots = ms) (hR : rm.frames + 1 ≤ R.frames ∧ 8 + (maxL + 11) + rm.locals ≤ R.locals) (hf : cells + mc ≤ R.cells ∧ slots + ms ≤ R.slots) (hst : st0 = As.reverse ++ st) (hdg : decode cc pc = .ok (.invokestatic index, 3)) (kk : ∀ h2 : MH, Post h2 → WG p l e R s m args below meth c (cells + mc) (slots + ms) Q G nL lv (pc + 3) (st) h2) : WG p l e R s m args below meth c cells slots Q G nL lv pc st0 h :=
  x_finv (fun H locs ls hw hv => va_runS (As := As) (rest := st) C0.1 hM ⟨ck_B C0 hl mk hrc hrs hR, C0.ts _ sk⟩ ⟨Wd.blind, fun U hU hW => ⟨rfl, hw.toWd C0 U hU hW⟩⟩ rfl hn hv.1 hst (lv_room hW) hdg hf) kk
theorem x_callSNv (C0 : Cx G p s m args c cc nL own) {Post : MH → Prop} {host : String} (hM : Met l y (Cond.code y bytes maxL ret :: lw_good) rm (va_Pc (As) (Wd G h)) (va_Qv Post (Wd G) (mA G)) mc ms (mA G)) (hl : va_Nw (.methodLinkNest own index y host) s) (mk : MK y bytes maxL ret n) (sk : Cond.static y ∈ lw_good) (hn : As.length = n) (hW : (st.map fun v => v.category).sum ≤ 8) (hrc : rm.cells = mc) (hrs : rm.slots = ms) (hR : rm.frames + 1 ≤ R.frames ∧ 8 + (maxL + 11) + rm.locals ≤ R.locals) (hf : cells + mc ≤ R.cells ∧ slots + ms ≤ R.slots) (hst : st0 = As.reverse ++ st) (hdg : decode cc pc = .ok (.invokestatic index, 3)) (kk : ∀ h2 : MH, Post h2 → WG p l e R s m args below meth c (cells + mc) (slots + ms) Q G nL lv (pc + 3) (st) h2) : WG p l e R s m args below meth c cells slots Q G nL lv pc st0 h :=
  x_finv (fun H locs ls hw hv => va_runSN (As := As) (rest := st) C0.1 hM ⟨ck_N C0 hl mk hrc hrs hR, C0.ts _ sk, trivial⟩ ⟨Wd.blind, fun U hU hW => ⟨rfl, hw.toWd C0 U hU hW⟩⟩ rfl hn hv.1 hst (lv_room hW) hdg hf) kk
theorem x_callI (C0 : Cx G p s m args c cc nL own) {Post : MH → Prop} (hM : Met l y (Cond.code y bytes maxL none :: lw_good) rm (va_Pc (.ref (m_b G + k) :: As) (Wd G h)) (va_Qv Post (Wd G) (mA G)) mc ms (mA G)) (hl : Cond.methodLink own index y ∈ lw_good) (mk : MK y bytes maxL none n) (ik : y.name = "<init>" ∧ Cond.instanceMethod y ∈ lw_good) (hn : As.length = n) (hW : (st.map fun v => v.category).sum ≤ 8) (hrc : rm.cells = mc) (hrs : rm.slots = ms) (hR : rm.frames + 1 ≤ R.frames ∧ 8 + (maxL + 11) + rm.locals ≤ R.locals) (hf : cells + mc ≤ R.cells ∧ slots + ms ≤ R.slots) (hst : st0 = As.reverse ++ .ref (m_b G + k) :: st) (hdg : decode cc pc = .ok (.invokespecial index, 3)) (kk : ∀ h2 : MH, Post h2 → WG p l e R s m args below meth c (cells + mc) (slots + ms) Q G nL lv (pc + 3) (st) h2) : WG p l e R s m args below meth c cells slots Q G nL lv pc st0 h :=
  x_finv (fun H locs ls hw hv => va_runI (As := As) (rest := st) C0.1 hM ⟨ck_B C0 hl mk hrc hrs hR, ik.1, C0.ts _ ik.2⟩ ⟨Wd.blind, fun U hU hW => ⟨rfl, hw.toWd C0 U hU hW⟩⟩ rfl hn hv.1 hst (lv_room hW) hdg hf) kk
theorem x_callIN (C0 : Cx G p s m args c cc nL own) {Post : MH → Prop} {host : String} (hM : Met l y (Cond.code y bytes maxL none :: lw_good) rm (va_Pc (.ref (m_b G + k) :: As) (Wd G h)) (va_Qv Post (Wd G) (mA G)) mc ms (mA G)) (hl : va_Nw (.methodLinkNest own index y host) s) (mk : MK y bytes maxL none n) (ik : y.name = "<init>" ∧ Cond.instanceMethod y ∈ lw_good) (hn : As.length = n) (hW : (st.map fun v => v.category).sum ≤ 8) (hrc : rm.cells = mc) (hrs : rm.slots = ms) (hR : rm.frames + 1 ≤ R.frames ∧ 8 + (maxL + 11) + rm.locals ≤ R.locals) (hf : cells + mc ≤ R.cells ∧ slots + ms ≤ R.slots) (hst : st0 = As.reverse ++ .ref (m_b G + k) :: st) (hdg : decode cc pc = .ok (.invokespecial index, 3)) (kk : ∀ h2 : MH, Post h2 → WG p l e R s m args below meth c (cells + mc) (slots + ms) Q G nL lv (pc + 3) (st) h2) : WG p l e R s m args below meth c cells slots Q G nL lv pc st0 h :=
  x_finv (fun H locs ls hw hv => va_runIN (As := As) (rest := st) C0.1 hM ⟨ck_N C0 hl mk hrc hrs hR, ik.1, C0.ts _ ik.2⟩ ⟨Wd.blind, fun U hU hW => ⟨rfl, hw.toWd C0 U hU hW⟩⟩ rfl hn hv.1 hst (lv_room hW) hdg hf) kk
theorem x_callVr (C0 : Cx G p s m args c cc nL own) {Post : Nat → MH → Prop} {T : u_T} {N : Nat} (hM : Met l y (Cond.code y bytes maxL ret :: lw_good) rm (va_Pc (.ref (m_b G + k) :: As) (Wd G h)) (va_Qr (fun u : Nat × MH => Post u.1 u.2) (fun u a t => a = m_b G + u.1 ∧ Wd G u.2 t) (mA G)) mc ms (mA G)) (hl : Cond.methodLink own index y ∈ lw_good) (mk : MK y bytes maxL ret n) (vk : VK y) (hcl : vwCl[ci]? = some (y.cls, T, N)) (hc : gC h k = some ci) (hn : As.length = n) (hW : (st.map fun v => v.category).sum ≤ 8) (hrc : rm.cells = mc) (hrs : rm.slots = ms) (hR : rm.frames + 1 ≤ R.frames ∧ 8 + (maxL + 11) + rm.locals ≤ R.locals) (hf : cells + mc ≤ R.cells ∧ slots + ms ≤ R.slots) (hst : st0 = As.reverse ++ .ref (m_b G + k) :: st) (hdg : decode cc pc = .ok (.invokevirtual index, 3)) (kk : ∀ (r : Nat) (h2 : MH), Post r h2 → WG p l e R s m args below meth c (cells + mc) (slots + ms) Q G nL lv (pc + 3) (.ref (m_b G + r) :: st) h2) : WG p l e R s m args below meth c cells slots Q G nL lv pc st0 h :=
  x_finr (fun H locs ls hw hv => va_runV (As := As) (rest := st) C0.1 hM ⟨ck_B C0 hl mk hrc hrs hR, C0.ts _ vk.1, C0.ts _ vk.2⟩ ⟨Wd.blind, x_rcv C0 hw hcl hc, fun U hU hW => ⟨rfl, hw.toWd C0 U hU hW⟩⟩ rfl hn hv.1 hst (lv_room hW) hdg hf) kk
theorem x_callVNr (C0 : Cx G p s m args c cc nL own) {Post : Nat → MH → Prop} {host : String} {T : u_T} {N : Nat} (hM : Met l y (Cond.code y bytes maxL ret :: lw_good) rm (va_Pc (.ref (m_b G + k) :: As) (Wd G h)) (va_Qr (fun u : Nat × MH => Post u.1 u.2) (fun u a t => a = m_b G + u.1 ∧ Wd G u.2 t) (mA G)) mc ms (mA G)) (hl : va_Nw (.methodLinkNest own index y host) s) (mk : MK y bytes maxL ret n) (vk : VK y) (hcl : vwCl[ci]? = some (y.cls, T, N)) (hc : gC h k = some ci) (hn : As.length = n) (hW : (st.map fun v => v.category).sum ≤ 8) (hrc : rm.cells = mc) (hrs : rm.slots = ms) (hR : rm.frames + 1 ≤ R.frames ∧ 8 + (maxL + 11) + rm.locals ≤ R.locals) (hf : cells + mc ≤ R.cells ∧ slots + ms ≤ R.slots) (hst : st0 = As.reverse ++ .ref (m_b G + k) :: st) (hdg : decode cc pc = .ok (.invokevirtual index, 3)) (kk : ∀ (r : Nat) (h2 : MH), Post r h2 → WG p l e R s m args below meth c (cells + mc) (slots + ms) Q G nL lv (pc + 3) (.ref (m_b G + r) :: st) h2) : WG p l e R s m args below meth c cells slots Q G nL lv pc st0 h :=
  x_finr (fun H locs ls hw hv => va_runVN (As := As) (rest := st) C0.1 hM ⟨ck_N C0 hl mk hrc hrs hR, C0.ts _ vk.1, C0.ts _ vk.2⟩ ⟨Wd.blind, x_rcv C0 hw hcl hc, fun U hU hW => ⟨rfl, hw.toWd C0 U hU hW⟩⟩ rfl hn hv.1 hst (lv_room hW) hdg hf) kk
theorem x_callSr (C0 : Cx G p s m args c cc nL own) {Post : Nat → MH → Prop} (hM : Met l y (Cond.code y bytes maxL ret :: lw_good) rm (va_Pc (As) (Wd G h)) (va_Qr (fun u : Nat × MH => Post u.1 u.2) (fun u a t => a = m_b G + u.1 ∧ Wd G u.2 t) (mA G)) mc ms (mA G)) (hl : Cond.methodLink own index y ∈ lw_good) (mk : MK y bytes maxL ret n) (sk : Cond.static y ∈ lw_good) (hn : As.length = n) (hW : (st.map fun v => v.category).sum ≤ 8) (hrc : rm.cells = mc) (hrs : rm.slots = ms) (hR : rm.frames + 1 ≤ R.frames ∧ 8 + (maxL + 11) + rm.locals ≤ R.locals) (hf : cells + mc ≤ R.cells ∧ slots + ms ≤ R.slots) (hst : st0 = As.reverse ++ st) (hdg : decode cc pc = .ok (.invokestatic index, 3)) (kk : ∀ (r : Nat) (h2 : MH), Post r h2 → WG p l e R s m args below meth c (cells + mc) (slots + ms) Q G nL lv (pc + 3) (.ref (m_b G + r) :: st) h2) : WG p l e R s m args below meth c cells slots Q G nL lv pc st0 h :=
  x_finr (fun H locs ls hw hv => va_runS (As := As) (rest := st) C0.1 hM ⟨ck_B C0 hl mk hrc hrs hR, C0.ts _ sk⟩ ⟨Wd.blind, fun U hU hW => ⟨rfl, hw.toWd C0 U hU hW⟩⟩ rfl hn hv.1 hst (lv_room hW) hdg hf) kk
theorem x_callSNr (C0 : Cx G p s m args c cc nL own) {Post : Nat → MH → Prop} {host : String} (hM : Met l y (Cond.code y bytes maxL ret :: lw_good) rm (va_Pc (As) (Wd G h)) (va_Qr (fun u : Nat × MH => Post u.1 u.2) (fun u a t => a = m_b G + u.1 ∧ Wd G u.2 t) (mA G)) mc ms (mA G)) (hl : va_Nw (.methodLinkNest own index y host) s) (mk : MK y bytes maxL ret n) (sk : Cond.static y ∈ lw_good) (hn : As.length = n) (hW : (st.map fun v => v.category).sum ≤ 8) (hrc : rm.cells = mc) (hrs : rm.slots = ms) (hR : rm.frames + 1 ≤ R.frames ∧ 8 + (maxL + 11) + rm.locals ≤ R.locals) (hf : cells + mc ≤ R.cells ∧ slots + ms ≤ R.slots) (hst : st0 = As.reverse ++ st) (hdg : decode cc pc = .ok (.invokestatic index, 3)) (kk : ∀ (r : Nat) (h2 : MH), Post r h2 → WG p l e R s m args below meth c (cells + mc) (slots + ms) Q G nL lv (pc + 3) (.ref (m_b G + r) :: st) h2) : WG p l e R s m args below meth c cells slots Q G nL lv pc st0 h :=
  x_finr (fun H locs ls hw hv => va_runSN (As := As) (rest := st) C0.1 hM ⟨ck_N C0 hl mk hrc hrs hR, C0.ts _ sk, trivial⟩ ⟨Wd.blind, fun U hU hW => ⟨rfl, hw.toWd C0 U hU hW⟩⟩ rfl hn hv.1 hst (lv_room hW) hdg hf) kk
theorem x_iret (C0 : Cx G p s m args c cc nL own) {Post : Int32 → MH → Prop} {v : Int32} (hr : meth.sig.returnType = some .int) (hlk : meth.locks = false) (hp : Post v h) (hdg : decode cc pc = .ok (.ireturn, 1)) : WG p l e R s m args below meth c cells slots (MQ below (va_Qi Post (Wd G) (mA G)) args s cells slots (mA G)) G nL lv pc [.int v] h := fun H locs ls hw hv => W.iret (v := v) C0.ex C0.by hr (fun t ht hW => ⟨⟨v, h, rfl, hp, hw.toWd C0 t ht hW⟩, hw.2.2.F ht⟩) hw.2.2.2.2 hdg hlk
theorem x_zret (C0 : Cx G p s m args c cc nL own) {Post : Int32 → MH → Prop} {v : Int32} {ty : FieldType} (hr : meth.sig.returnType = some ty) (hn : narrow ty (.int v) = .int v) (hlk : meth.locks = false) (hp : Post v h) (hdg : decode cc pc = .ok (.ireturn, 1)) : WG p l e R s m args below meth c cells slots (MQ below (va_Qi Post (Wd G) (mA G)) args s cells slots (mA G)) G nL lv pc [.int v] h := fun H locs ls hw hv => W.zret (v := v) C0.ex C0.by hr hn (fun t ht hW => ⟨⟨v, h, rfl, hp, hw.toWd C0 t ht hW⟩, hw.2.2.F ht⟩) hw.2.2.2.2 hdg hlk
theorem x_vret (C0 : Cx G p s m args c cc nL own) {Post : MH → Prop} (hr : meth.sig.returnType = none) (hlk : meth.locks = false) (hp : Post h) (hdg : decode cc pc = .ok (.return_, 1)) : WG p l e R s m args below meth c cells slots (MQ below (va_Qv Post (Wd G) (mA G)) args s cells slots (mA G)) G nL lv pc [] h := fun H locs ls hw hv => W.vret C0.ex C0.by hr (fun t ht hW => ⟨⟨h, rfl, hp, hw.toWd C0 t ht hW⟩, hw.2.2.F ht⟩) hw.2.2.2.2 hdg hlk
theorem x_aret (C0 : Cx G p s m args c cc nL own) {Post : Nat → MH → Prop} {v : Nat} {rt : FieldType} (hr : meth.sig.returnType = some rt) (hrt : (∃ n, rt = .object n) ∨ ∃ t, rt = .array t) (hlk : meth.locks = false) (hp : Post v h) (hdg : decode cc pc = .ok (.areturn, 1)) : WG p l e R s m args below meth c cells slots (MQ below (va_Qr (fun u : Nat × MH => Post u.1 u.2) (fun u a t => a = m_b G + u.1 ∧ Wd G u.2 t) (mA G)) args s cells slots (mA G)) G nL lv pc [.ref (m_b G + v)] h := fun H locs ls hw hv => W.aret (v := .ref (m_b G + v)) C0.ex C0.by hr hrt (Or.inr ⟨_, rfl⟩) (fun t ht hW => ⟨⟨(v, h), m_b G + v, rfl, hp, rfl, hw.toWd C0 t ht hW⟩, hw.2.2.F ht⟩) hw.2.2.2.2 hdg hlk
theorem x_sald (C0 : Cx G p s m args c cc nL own) {t : Nat} {i : Int32} (ht : t < m_nS) (hin : vp_in i (m_sN t)) (hdg : decode cc pc = .ok (.iaload, 1)) (kk : WG p l e R s m args below meth c cells slots Q G nL lv (pc + 1) (.int (m_sV t i.toNatClampNeg) :: st) h) : WG p l e R s m args below meth c cells slots Q G nL lv pc (.int i :: .ref (m_s G t) :: st) h := fun H locs ls hw hv => va_ti C0.ex C0.by (C0.St.1 t ht).2 hw.2.2 hin rfl hdg (kk H locs ls hw hv)
theorem x_slen (C0 : Cx G p s m args c cc nL own) {t : Nat} (ht : t < m_nS) (hdg : decode cc pc = .ok (.arraylength, 1)) (kk : WG p l e R s m args below meth c cells slots Q G nL lv (pc + 1) (.int (nI (m_sN t)) :: st) h) : WG p l e R s m args below meth c cells slots Q G nL lv pc (.ref (m_s G t) :: st) h := fun H locs ls hw hv => va_tlen C0.ex C0.by (C0.St.1 t ht).2 hw.2.2 rfl hdg (kk H locs ls hw hv)
theorem x_gets (C0 : Cx G p s m args c cc nL own) (t : Nat) (ht : t < m_nS) (hl : Cond.fieldLink own index (m_sC t) (m_sF t) "[I" ∈ lw_good) (hdg : decode cc pc = .ok (.getstatic index, 3)) (kk : WG p l e R s m args below meth c cells slots Q G nL lv (pc + 3) (.ref (m_s G t) :: st) h) : WG p l e R s m args below meth c cells slots Q G nL lv pc st h := fun H locs ls hw hv => va_gets C0.ex C0.by (C0.St.1 t ht).1 hw.2.2 C0.ow (C0.ts _ hl) (fun _ h => h) hdg (kk H locs ls hw hv)
theorem x_getsN (C0 : Cx G p s m args c cc nL own) {host : String} (t : Nat) (ht : t < m_nS) (hl : va_Nw (.fieldLinkNest own index (m_sC t) (m_sF t) "[I" host) s) (hdg : decode cc pc = .ok (.getstatic index, 3)) (kk : WG p l e R s m args below meth c cells slots Q G nL lv (pc + 3) (.ref (m_s G t) :: st) h) : WG p l e R s m args below meth c cells slots Q G nL lv pc st h := fun H locs ls hw hv => va_getsN C0.ex C0.by (C0.St.1 t ht).1 hw.2.2 C0.ow (va_Nw.use rfl hl) (fun _ h => h) hdg (kk H locs ls hw hv)
theorem x_ldc (C0 : Cx G p s m args c cc nL own) {v : Int32} (hk : Cond.constant own index v ∈ lw_good) (hdg : decode cc pc = .ok (.ldc index, 2)) (kk : WG p l e R s m args below meth c cells slots Q G nL lv (pc + 2) (.int v :: st) h) : WG p l e R s m args below meth c cells slots Q G nL lv pc st h := fun H locs ls hw hv => lv_ldc C0.ex C0.by C0.ow (C0.ts _ hk) hdg (kk H locs ls hw hv)
theorem x_ldcw (C0 : Cx G p s m args c cc nL own) {v : Int32} (hk : Cond.constant own index v ∈ lw_good) (hdg : decode cc pc = .ok (.ldc_w index, 3)) (kk : WG p l e R s m args below meth c cells slots Q G nL lv (pc + 3) (.int v :: st) h) : WG p l e R s m args below meth c cells slots Q G nL lv pc st h := fun H locs ls hw hv => lv_ldcw C0.ex C0.by C0.ow (C0.ts _ hk) hdg (kk H locs ls hw hv)
theorem x_ldc2 (C0 : Cx G p s m args c cc nL own) {v : Int64} (hk : Cond.constantLong own index v ∈ lw_good) (hdg : decode cc pc = .ok (.ldc2_w index, 3)) (kk : WG p l e R s m args below meth c cells slots Q G nL lv (pc + 3) (.long v :: st) h) : WG p l e R s m args below meth c cells slots Q G nL lv pc st h := fun H locs ls hw hv => lv_ldc2 C0.ex C0.by C0.ow (C0.ts _ hk) hdg (kk H locs ls hw hv)
theorem nar_z {x : Int32} (hx : x = 0 ∨ x = 1) : narrow .boolean (.int x) = .int x := by rcases hx with rfl | rfl <;> rfl
theorem sw_out {x : Int32} {lo hi : Int} (hk : ∀ k : Int, lo ≤ k → k ≤ hi → ¬ x = Int32.ofInt k) : x.toInt < lo ∨ hi < x.toInt := by
  by_cases h1 : x.toInt < lo
  · exact Or.inl h1
  · by_cases h2 : hi < x.toInt
    · exact Or.inr h2
    · exact absurd (Int32.ofInt_toInt x).symm (hk x.toInt (by omega) (by omega))
theorem x_objInit (C0 : Cx G p s m args c cc nL own) {a : Nat} (hl : Cond.methodLink own index Lib.objectInit ∈ lw_good) (h2 : Cond.instanceMethod Lib.objectInit ∈ lw_good) (h3 : Cond.code Lib.objectInit ⟨#[0xb1]⟩ 1 none ∈ lw_good) (hdg : decode cc pc = .ok (.invokespecial index, 3)) (hR : 1 ≤ R.frames ∧ 20 ≤ R.locals) (hW : (st.map fun v => v.category).sum ≤ 8) (kk : WG p l e R s m args below meth c cells slots Q G nL lv (pc + 3) st h) : WG p l e R s m args below meth c cells slots Q G nL lv pc (.ref a :: st) h := fun H locs ls hw hv => W.objInit C0.ex C0.by C0.ow (C0.ts _ hl) (C0.ts _ h2) (C0.ts _ h3) rfl (by rw [C0.ml]; exact hv.1) rfl hdg hR.1 (by show 2 * 0 + _ + 12 ≤ _; omega) (kk H locs ls hw hv)
theorem x_mmax (C0 : Cx G p s m args c cc nL own) {x z : Int32} (hl : Cond.methodLink own index Lib.Math.max.name ∈ lw_good) (h2 : Cond.static Lib.Math.max.name ∈ lw_good) (h3 : Cond.initialized "java/lang/Math" ∈ lw_good) (h4 : Cond.code Lib.Math.max.name Lib.Math.max.code 2 (some .int) ∈ lw_good) (hdg : decode cc pc = .ok (.invokestatic index, 3)) (hR : 1 ≤ R.frames ∧ 21 ≤ R.locals) (hc : cells ≤ R.cells ∧ slots ≤ R.slots) (hW : (st.map fun v => v.category).sum ≤ 8) (kk : WG p l e R s m args below meth c cells slots Q G nL lv (pc + 3) (.int (if x < z then z else x) :: st) h) : WG p l e R s m args below meth c cells slots Q G nL lv pc (.int z :: .int x :: st) h := fun H locs ls hw hv => va_mmax C0.ex C0.by (by rw [C0.ml]; exact hv.1.symm) C0.ow (C0.ts _ hl) (C0.ts _ h2) (C0.ts _ h3) (C0.ts _ h4) hR.1 (by omega) hc.1 hc.2 hdg (kk H locs ls hw hv)
theorem x_mmin (C0 : Cx G p s m args c cc nL own) {x z : Int32} (hl : Cond.methodLink own index Lib.Math.min.name ∈ lw_good) (h2 : Cond.static Lib.Math.min.name ∈ lw_good) (h3 : Cond.initialized "java/lang/Math" ∈ lw_good) (h4 : Cond.code Lib.Math.min.name Lib.Math.min.code 2 (some .int) ∈ lw_good) (hdg : decode cc pc = .ok (.invokestatic index, 3)) (hR : 1 ≤ R.frames ∧ 21 ≤ R.locals) (hc : cells ≤ R.cells ∧ slots ≤ R.slots) (hW : (st.map fun v => v.category).sum ≤ 8) (kk : WG p l e R s m args below meth c cells slots Q G nL lv (pc + 3) (.int (if z < x then z else x) :: st) h) : WG p l e R s m args below meth c cells slots Q G nL lv pc (.int z :: .int x :: st) h := fun H locs ls hw hv => va_mmin C0.ex C0.by (by rw [C0.ml]; exact hv.1.symm) C0.ow (C0.ts _ hl) (C0.ts _ h2) (C0.ts _ h3) (C0.ts _ h4) hR.1 (by omega) hc.1 hc.2 hdg (kk H locs ls hw hv)
theorem x_mabs (C0 : Cx G p s m args c cc nL own) {x : Int32} (hl : Cond.methodLink own index Lib.Math.abs.name ∈ lw_good) (h2 : Cond.static Lib.Math.abs.name ∈ lw_good) (h3 : Cond.initialized "java/lang/Math" ∈ lw_good) (h4 : Cond.code Lib.Math.abs.name Lib.Math.abs.code 1 (some .int) ∈ lw_good) (hdg : decode cc pc = .ok (.invokestatic index, 3)) (hR : 1 ≤ R.frames ∧ 21 ≤ R.locals) (hc : cells ≤ R.cells ∧ slots ≤ R.slots) (hW : (st.map fun v => v.category).sum ≤ 8) (kk : WG p l e R s m args below meth c cells slots Q G nL lv (pc + 3) (.int (if 0 ≤ x then x else 0 - x) :: st) h) : WG p l e R s m args below meth c cells slots Q G nL lv pc (.int x :: st) h := fun H locs ls hw hv => va_mabs C0.ex C0.by (by rw [C0.ml]; exact hv.1.symm) C0.ow (C0.ts _ hl) (C0.ts _ h2) (C0.ts _ h3) (C0.ts _ h4) hR.1 (by omega) hc.1 hc.2 hdg (kk H locs ls hw hv)
theorem x_new (C0 : Cx G p s m args c cc nL own) {ci : Nat} {C : String} {T : u_T} {N : Nat} (fs : List MV) (hcl : vwCl[ci]? = some (C, T, N)) (hin : ∀ w ∈ u_ws C T N, w ∈ lw_good) (ty : Nat → FieldType) (hty : ∀ k, k < N → parseFieldDescriptor (T k).2.2.1 = some (ty k)) (hl : Cond.classLink own index C ∈ lw_good) (h2 : Cond.instantiable C N ∈ lw_good) (h3 : Cond.initialized C ∈ lw_good) (hfs : ∀ j, j < N → defaultValue (ty j) = vp_V (fs.map (trV (m_b G))) j) (hf : cells + 1 ≤ R.cells ∧ slots + N ≤ R.slots) (hdg : decode cc pc = .ok (.new index, 3)) (kk : WG p l e R s m args below meth c (cells + 1) (slots + N) Q G nL lv (pc + 3) (.ref (m_b G + h.1) :: st) (mnew h (.inl (ci, fs)))) : WG p l e R s m args below meth c cells slots Q G nL lv pc st h := by
  intro H locs ls hw hv
  have hKn := C0.K.1 ci _ hcl
  refine W.newcK C0.ex C0.by C0.ow (C0.ts _ hl) (C0.ts _ h2) (C0.ts _ h3) rfl hdg hf.1 hf.2 hKn.2.1 (h := m_b G + h.1) hw.2.1 fun H1 kC hkC e1 z1 o1 => ?_
  exact kk H1 locs ls (hw.new C0 ⟨_, hcl, (u_born ty C0.ts hin hKn hkC e1 hty).to hfs⟩ (by rw [z1, hw.2.1]) (fun q hq => o1 q (by rw [← hw.2.1]; exact hq))) hv
theorem x_newai (C0 : Cx G p s m args c cc nL own) {n : Int32} (N : Nat) (h1 : Cond.arrayClass .int ∈ lw_good) (hn : ¬ n < 0) (hN : n.toNatClampNeg = N) (hb : N * componentBytes .int ≤ 536870912) (hf : cells + 1 ≤ R.cells ∧ slots + N ≤ R.slots) (hdg : decode cc pc = .ok (.newarray .int, 2)) (kk : WG p l e R s m args below meth c (cells + 1) (slots + N) Q G nL lv (pc + 2) (.ref (m_b G + h.1) :: st) (mnew h (.inr (0, N, .inl (fun _ => 0))))) : WG p l e R s m args below meth c cells slots Q G nL lv pc (.int n :: st) h := by
  intro H locs ls hw hv
  refine va_newaK C0.ex C0.by (atype := .int) (C0.ts _ h1) rfl hdg rfl hn hN hb hf.1 hf.2 (h := m_b G + h.1) hw.2.1 fun H1 cA e1 z1 o1 hAr hNm => ?_
  have hcA : cA = G.2.1 0 := Option.some.inj (hNm.symm.trans ((C0.K.2 0 _ rfl).2))
  subst hcA
  refine kk H1 locs ls (hw.new C0 ?_ (by rw [z1, hw.2.1]) (fun q hq => o1 q (by rw [← hw.2.1]; exact hq))) hv
  show H1[m_b G + h.1]? = some (vp_cell (G.2.1 0) (N, .inl (fun _ => 0)))
  rw [vp_cell_i]
  exact e1
theorem x_newaz (C0 : Cx G p s m args c cc nL own) {n : Int32} (N : Nat) (h1 : Cond.arrayClass .boolean ∈ lw_good) (hn : ¬ n < 0) (hN : n.toNatClampNeg = N) (hb : N * componentBytes .boolean ≤ 536870912) (hf : cells + 1 ≤ R.cells ∧ slots + N ≤ R.slots) (hdg : decode cc pc = .ok (.newarray .boolean, 2)) (kk : WG p l e R s m args below meth c (cells + 1) (slots + N) Q G nL lv (pc + 2) (.ref (m_b G + h.1) :: st) (mnew h (.inr (1, N, .inl (fun _ => 0))))) : WG p l e R s m args below meth c cells slots Q G nL lv pc (.int n :: st) h := by
  intro H locs ls hw hv
  refine va_newaK C0.ex C0.by (atype := .boolean) (C0.ts _ h1) rfl hdg rfl hn hN hb hf.1 hf.2 (h := m_b G + h.1) hw.2.1 fun H1 cA e1 z1 o1 hAr hNm => ?_
  have hcA : cA = G.2.1 1 := Option.some.inj (hNm.symm.trans ((C0.K.2 1 _ rfl).2))
  subst hcA
  refine kk H1 locs ls (hw.new C0 ?_ (by rw [z1, hw.2.1]) (fun q hq => o1 q (by rw [← hw.2.1]; exact hq))) hv
  show H1[m_b G + h.1]? = some (vp_cell (G.2.1 1) (N, .inl (fun _ => 0)))
  rw [vp_cell_i]
  exact e1
theorem x_newal (C0 : Cx G p s m args c cc nL own) {n : Int32} (N : Nat) (h1 : Cond.arrayClass .long ∈ lw_good) (hn : ¬ n < 0) (hN : n.toNatClampNeg = N) (hb : N * componentBytes .long ≤ 536870912) (hf : cells + 1 ≤ R.cells ∧ slots + N ≤ R.slots) (hdg : decode cc pc = .ok (.newarray .long, 2)) (kk : WG p l e R s m args below meth c (cells + 1) (slots + N) Q G nL lv (pc + 2) (.ref (m_b G + h.1) :: st) (mnew h (.inr (2, N, .inr (.inl (fun _ => 0)))))) : WG p l e R s m args below meth c cells slots Q G nL lv pc (.int n :: st) h := by
  intro H locs ls hw hv
  refine va_newaK C0.ex C0.by (atype := .long) (C0.ts _ h1) rfl hdg rfl hn hN hb hf.1 hf.2 (h := m_b G + h.1) hw.2.1 fun H1 cA e1 z1 o1 hAr hNm => ?_
  have hcA : cA = G.2.1 2 := Option.some.inj (hNm.symm.trans ((C0.K.2 2 _ rfl).2))
  subst hcA
  refine kk H1 locs ls (hw.new C0 ?_ (by rw [z1, hw.2.1]) (fun q hq => o1 q (by rw [← hw.2.1]; exact hq))) hv
  show H1[m_b G + h.1]? = some (vp_cell (G.2.1 2) (N, .inr (.inl (fun _ => 0))))
  rw [vp_cell_l]
  exact e1
theorem x_newq (C0 : Cx G p s m args c cc nL own) {n : Int32} {C : String} {t : Nat} (N : Nat) (ht : (m_tys G)[t]? = some (G.2.1 t, .object C)) (hl : Cond.classLink own index C ∈ lw_good) (h1 : va_AO C s) (hn : ¬ n < 0) (hN : n.toNatClampNeg = N) (hb : N * 4 ≤ 536870912) (hf : cells + 1 ≤ R.cells ∧ slots + N ≤ R.slots) (hdg : decode cc pc = .ok (.anewarray index, 3)) (kk : WG p l e R s m args below meth c (cells + 1) (slots + N) Q G nL lv (pc + 3) (.ref (m_b G + h.1) :: st) (mnew h (.inr (t, N, .inr (.inr (fun _ => none)))))) : WG p l e R s m args below meth c cells slots Q G nL lv pc (.int n :: st) h := by
  intro H locs ls hw hv
  subst hN
  refine W.anew C0.ex C0.by C0.ow (C0.ts _ hl) (va_AO.use h1) rfl hdg rfl hn hb hf.1 hf.2 fun cA kA comp f1 f2 f3 f4 => ?_
  have hcA : cA = G.2.1 t := by
    obtain ⟨kA', comp', -, -, -, g4⟩ := (C0.K.2 t _ ht).2
    exact Option.some.inj (f1.symm.trans g4)
  subst hcA
  rw [hw.2.1]
  refine kk _ locs ls (hw.new C0 ?_ (by rw [Array.size_push]) (fun q hq => by rw [Array.getElem?_push, if_neg (Nat.ne_of_lt hq)])) hv
  show _ = some (vp_cell (G.2.1 t) (n.toNatClampNeg, .inr (.inr (.inr (.inr (fun _ => none))))))
  rw [vp_cell_q, ← hw.2.1, Array.getElem?_push_size, ← arrV_new]
  rfl
theorem x_callVi0 (C0 : Cx G p s m args c cc nL own) {Post : Int32 → MH → Prop} {T : u_T} {N : Nat} (hM : Met l y (Cond.code y bytes maxL ret :: lw_good) rm (va_Pc (.ref (m_b G + k) :: As) (Wd G h)) (va_Qi Post (Wd G) (mA G)) 0 0 (mA G)) (hl : Cond.methodLink own index y ∈ lw_good) (mk : MK y bytes maxL ret n) (vk : VK y) (hcl : vwCl[ci]? = some (y.cls, T, N)) (hc : gC h k = some ci) (hn : As.length = n) (hW : (st.map fun v => v.category).sum ≤ 8) (hrc : rm.cells = 0) (hrs : rm.slots = 0) (hR : rm.frames + 1 ≤ R.frames ∧ 8 + (maxL + 11) + rm.locals ≤ R.locals) (hf : cells ≤ R.cells ∧ slots ≤ R.slots) (hst : st0 = As.reverse ++ .ref (m_b G + k) :: st) (hdg : decode cc pc = .ok (.invokevirtual index, 3)) (kk : ∀ (r : Int32) (h2 : MH), Post r h2 → WG p l e R s m args below meth c cells slots Q G nL lv (pc + 3) (.int r :: st) h2) : WG p l e R s m args below meth c cells slots Q G nL lv pc st0 h :=
  x_callVi (mc := 0) (ms := 0) C0 hM hl mk vk hcl hc hn hW hrc hrs hR hf hst hdg kk
theorem x_callVNi0 (C0 : Cx G p s m args c cc nL own) {Post : Int32 → MH → Prop} {host : String} {T : u_T} {N : Nat} (hM : Met l y (Cond.code y bytes maxL ret :: lw_good) rm (va_Pc (.ref (m_b G + k) :: As) (Wd G h)) (va_Qi Post (Wd G) (mA G)) 0 0 (mA G)) (hl : va_Nw (.methodLinkNest own index y host) s) (mk : MK y bytes maxL ret n) (vk : VK y) (hcl : vwCl[ci]? = some (y.cls, T, N)) (hc : gC h k = some ci) (hn : As.length = n) (hW : (st.map fun v => v.category).sum ≤ 8) (hrc : rm.cells = 0) (hrs : rm.slots = 0) (hR : rm.frames + 1 ≤ R.frames ∧ 8 + (maxL + 11) + rm.locals ≤ R.locals) (hf : cells ≤ R.cells ∧ slots ≤ R.slots) (hst : st0 = As.reverse ++ .ref (m_b G + k) :: st) (hdg : decode cc pc = .ok (.invokevirtual index, 3)) (kk : ∀ (r : Int32) (h2 : MH), Post r h2 → WG p l e R s m args below meth c cells slots Q G nL lv (pc + 3) (.int r :: st) h2) : WG p l e R s m args below meth c cells slots Q G nL lv pc st0 h :=
  x_callVNi (mc := 0) (ms := 0) C0 hM hl mk vk hcl hc hn hW hrc hrs hR hf hst hdg kk
theorem x_callSi0 (C0 : Cx G p s m args c cc nL own) {Post : Int32 → MH → Prop} (hM : Met l y (Cond.code y bytes maxL ret :: lw_good) rm (va_Pc (As) (Wd G h)) (va_Qi Post (Wd G) (mA G)) 0 0 (mA G)) (hl : Cond.methodLink own index y ∈ lw_good) (mk : MK y bytes maxL ret n) (sk : Cond.static y ∈ lw_good) (hn : As.length = n) (hW : (st.map fun v => v.category).sum ≤ 8) (hrc : rm.cells = 0) (hrs : rm.slots = 0) (hR : rm.frames + 1 ≤ R.frames ∧ 8 + (maxL + 11) + rm.locals ≤ R.locals) (hf : cells ≤ R.cells ∧ slots ≤ R.slots) (hst : st0 = As.reverse ++ st) (hdg : decode cc pc = .ok (.invokestatic index, 3)) (kk : ∀ (r : Int32) (h2 : MH), Post r h2 → WG p l e R s m args below meth c cells slots Q G nL lv (pc + 3) (.int r :: st) h2) : WG p l e R s m args below meth c cells slots Q G nL lv pc st0 h :=
  x_callSi (mc := 0) (ms := 0) C0 hM hl mk sk hn hW hrc hrs hR hf hst hdg kk
theorem x_callSNi0 (C0 : Cx G p s m args c cc nL own) {Post : Int32 → MH → Prop} {host : String} (hM : Met l y (Cond.code y bytes maxL ret :: lw_good) rm (va_Pc (As) (Wd G h)) (va_Qi Post (Wd G) (mA G)) 0 0 (mA G)) (hl : va_Nw (.methodLinkNest own index y host) s) (mk : MK y bytes maxL ret n) (sk : Cond.static y ∈ lw_good) (hn : As.length = n) (hW : (st.map fun v => v.category).sum ≤ 8) (hrc : rm.cells = 0) (hrs : rm.slots = 0) (hR : rm.frames + 1 ≤ R.frames ∧ 8 + (maxL + 11) + rm.locals ≤ R.locals) (hf : cells ≤ R.cells ∧ slots ≤ R.slots) (hst : st0 = As.reverse ++ st) (hdg : decode cc pc = .ok (.invokestatic index, 3)) (kk : ∀ (r : Int32) (h2 : MH), Post r h2 → WG p l e R s m args below meth c cells slots Q G nL lv (pc + 3) (.int r :: st) h2) : WG p l e R s m args below meth c cells slots Q G nL lv pc st0 h :=
  x_callSNi (mc := 0) (ms := 0) C0 hM hl mk sk hn hW hrc hrs hR hf hst hdg kk
theorem x_callVv0 (C0 : Cx G p s m args c cc nL own) {Post : MH → Prop} {T : u_T} {N : Nat} (hM : Met l y (Cond.code y bytes maxL ret :: lw_good) rm (va_Pc (.ref (m_b G + k) :: As) (Wd G h)) (va_Qv Post (Wd G) (mA G)) 0 0 (mA G)) (hl : Cond.methodLink own index y ∈ lw_good) (mk : MK y bytes maxL ret n) (vk : VK y) (hcl : vwCl[ci]? = some (y.cls, T, N)) (hc : gC h k = some ci) (hn : As.length = n) (hW : (st.map fun v => v.category).sum ≤ 8) (hrc : rm.cells = 0) (hrs : rm.slots = 0) (hR : rm.frames + 1 ≤ R.frames ∧ 8 + (maxL + 11) + rm.locals ≤ R.locals) (hf : cells ≤ R.cells ∧ slots ≤ R.slots) (hst : st0 = As.reverse ++ .ref (m_b G + k) :: st) (hdg : decode cc pc = .ok (.invokevirtual index, 3)) (kk : ∀ h2 : MH, Post h2 → WG p l e R s m args below meth c cells slots Q G nL lv (pc + 3) (st) h2) : WG p l e R s m args below meth c cells slots Q G nL lv pc st0 h :=
  x_callVv (mc := 0) (ms := 0) C0 hM hl mk vk hcl hc hn hW hrc hrs hR hf hst hdg kk
theorem x_callVNv0 (C0 : Cx G p s m args c cc nL own) {Post : MH → Prop} {host : String} {T : u_T} {N : Nat} (hM : Met l y (Cond.code y bytes maxL ret :: lw_good) rm (va_Pc (.ref (m_b G + k) :: As) (Wd G h)) (va_Qv Post (Wd G) (mA G)) 0 0 (mA G)) (hl : va_Nw (.methodLinkNest own index y host) s) (mk : MK y bytes maxL ret n) (vk : VK y) (hcl : vwCl[ci]? = some (y.cls, T, N)) (hc : gC h k = some ci) (hn : As.length = n) (hW : (st.map fun v => v.category).sum ≤ 8) (hrc : rm.cells = 0) (hrs : rm.slots = 0) (hR : rm.frames + 1 ≤ R.frames ∧ 8 + (maxL + 11) + rm.locals ≤ R.locals) (hf : cells ≤ R.cells ∧ slots ≤ R.slots) (hst : st0 = As.reverse ++ .ref (m_b G + k) :: st) (hdg : decode cc pc = .ok (.invokevirtual index, 3)) (kk : ∀ h2 : MH, Post h2 → WG p l e R s m args below meth c cells slots Q G nL lv (pc + 3) (st) h2) : WG p l e R s m args below meth c cells slots Q G nL lv pc st0 h :=
  x_callVNv (mc := 0) (ms := 0) C0 hM hl mk vk hcl hc hn hW hrc hrs hR hf hst hdg kk
theorem x_callSv0 (C0 : Cx G p s m args c cc nL own) {Post : MH → Prop} (hM : Met l y (Cond.code y bytes maxL ret :: lw_good) rm (va_Pc (As) (Wd G h)) (va_Qv Post (Wd G) (mA G)) 0 0 (mA G)) (hl : Cond.methodLink own index y ∈ lw_good) (mk : MK y bytes maxL ret n) (sk : Cond.static y ∈ lw_good) (hn : As.length = n) (hW : (st.map fun v => v.category).sum ≤ 8) (hrc : rm.cells = 0) (hrs : rm.slots = 0) (hR : rm.frames + 1 ≤ R.frames ∧ 8 + (maxL + 11) + rm.locals ≤ R.locals) (hf : cells ≤ R.cells ∧ slots ≤ R.slots) (hst : st0 = As.reverse ++ st) (hdg : decode cc pc = .ok (.invokestatic index, 3)) (kk : ∀ h2 : MH, Post h2 → WG p l e R s m args below meth c cells slots Q G nL lv (pc + 3) (st) h2) : WG p l e R s m args below meth c cells slots Q G nL lv pc st0 h :=
  x_callSv (mc := 0) (ms := 0) C0 hM hl mk sk hn hW hrc hrs hR hf hst hdg kk
theorem x_callSNv0 (C0 : Cx G p s m args c cc nL own) {Post : MH → Prop} {host : String} (hM : Met l y (Cond.code y bytes maxL ret :: lw_good) rm (va_Pc (As) (Wd G h)) (va_Qv Post (Wd G) (mA G)) 0 0 (mA G)) (hl : va_Nw (.methodLinkNest own index y host) s) (mk : MK y bytes maxL ret n) (sk : Cond.static y ∈ lw_good) (hn : As.length = n) (hW : (st.map fun v => v.category).sum ≤ 8) (hrc : rm.cells = 0) (hrs : rm.slots = 0) (hR : rm.frames + 1 ≤ R.frames ∧ 8 + (maxL + 11) + rm.locals ≤ R.locals) (hf : cells ≤ R.cells ∧ slots ≤ R.slots) (hst : st0 = As.reverse ++ st) (hdg : decode cc pc = .ok (.invokestatic index, 3)) (kk : ∀ h2 : MH, Post h2 → WG p l e R s m args below meth c cells slots Q G nL lv (pc + 3) (st) h2) : WG p l e R s m args below meth c cells slots Q G nL lv pc st0 h :=
  x_callSNv (mc := 0) (ms := 0) C0 hM hl mk sk hn hW hrc hrs hR hf hst hdg kk
theorem x_callI0 (C0 : Cx G p s m args c cc nL own) {Post : MH → Prop} (hM : Met l y (Cond.code y bytes maxL none :: lw_good) rm (va_Pc (.ref (m_b G + k) :: As) (Wd G h)) (va_Qv Post (Wd G) (mA G)) 0 0 (mA G)) (hl : Cond.methodLink own index y ∈ lw_good) (mk : MK y bytes maxL none n) (ik : y.name = "<init>" ∧ Cond.instanceMethod y ∈ lw_good) (hn : As.length = n) (hW : (st.map fun v => v.category).sum ≤ 8) (hrc : rm.cells = 0) (hrs : rm.slots = 0) (hR : rm.frames + 1 ≤ R.frames ∧ 8 + (maxL + 11) + rm.locals ≤ R.locals) (hf : cells ≤ R.cells ∧ slots ≤ R.slots) (hst : st0 = As.reverse ++ .ref (m_b G + k) :: st) (hdg : decode cc pc = .ok (.invokespecial index, 3)) (kk : ∀ h2 : MH, Post h2 → WG p l e R s m args below meth c cells slots Q G nL lv (pc + 3) (st) h2) : WG p l e R s m args below meth c cells slots Q G nL lv pc st0 h :=
  x_callI (mc := 0) (ms := 0) C0 hM hl mk ik hn hW hrc hrs hR hf hst hdg kk
theorem x_callIN0 (C0 : Cx G p s m args c cc nL own) {Post : MH → Prop} {host : String} (hM : Met l y (Cond.code y bytes maxL none :: lw_good) rm (va_Pc (.ref (m_b G + k) :: As) (Wd G h)) (va_Qv Post (Wd G) (mA G)) 0 0 (mA G)) (hl : va_Nw (.methodLinkNest own index y host) s) (mk : MK y bytes maxL none n) (ik : y.name = "<init>" ∧ Cond.instanceMethod y ∈ lw_good) (hn : As.length = n) (hW : (st.map fun v => v.category).sum ≤ 8) (hrc : rm.cells = 0) (hrs : rm.slots = 0) (hR : rm.frames + 1 ≤ R.frames ∧ 8 + (maxL + 11) + rm.locals ≤ R.locals) (hf : cells ≤ R.cells ∧ slots ≤ R.slots) (hst : st0 = As.reverse ++ .ref (m_b G + k) :: st) (hdg : decode cc pc = .ok (.invokespecial index, 3)) (kk : ∀ h2 : MH, Post h2 → WG p l e R s m args below meth c cells slots Q G nL lv (pc + 3) (st) h2) : WG p l e R s m args below meth c cells slots Q G nL lv pc st0 h :=
  x_callIN (mc := 0) (ms := 0) C0 hM hl mk ik hn hW hrc hrs hR hf hst hdg kk
theorem x_callVr0 (C0 : Cx G p s m args c cc nL own) {Post : Nat → MH → Prop} {T : u_T} {N : Nat} (hM : Met l y (Cond.code y bytes maxL ret :: lw_good) rm (va_Pc (.ref (m_b G + k) :: As) (Wd G h)) (va_Qr (fun u : Nat × MH => Post u.1 u.2) (fun u a t => a = m_b G + u.1 ∧ Wd G u.2 t) (mA G)) 0 0 (mA G)) (hl : Cond.methodLink own index y ∈ lw_good) (mk : MK y bytes maxL ret n) (vk : VK y) (hcl : vwCl[ci]? = some (y.cls, T, N)) (hc : gC h k = some ci) (hn : As.length = n) (hW : (st.map fun v => v.category).sum ≤ 8) (hrc : rm.cells = 0) (hrs : rm.slots = 0) (hR : rm.frames + 1 ≤ R.frames ∧ 8 + (maxL + 11) + rm.locals ≤ R.locals) (hf : cells ≤ R.cells ∧ slots ≤ R.slots) (hst : st0 = As.reverse ++ .ref (m_b G + k) :: st) (hdg : decode cc pc = .ok (.invokevirtual index, 3)) (kk : ∀ (r : Nat) (h2 : MH), Post r h2 → WG p l e R s m args below meth c cells slots Q G nL lv (pc + 3) (.ref (m_b G + r) :: st) h2) : WG p l e R s m args below meth c cells slots Q G nL lv pc st0 h :=
  x_callVr (mc := 0) (ms := 0) C0 hM hl mk vk hcl hc hn hW hrc hrs hR hf hst hdg kk
theorem x_callVNr0 (C0 : Cx G p s m args c cc nL own) {Post : Nat → MH → Prop} {host : String} {T : u_T} {N : Nat} (hM : Met l y (Cond.code y bytes maxL ret :: lw_good) rm (va_Pc (.ref (m_b G + k) :: As) (Wd G h)) (va_Qr (fun u : Nat × MH => Post u.1 u.2) (fun u a t => a = m_b G + u.1 ∧ Wd G u.2 t) (mA G)) 0 0 (mA G)) (hl : va_Nw (.methodLinkNest own index y host) s) (mk : MK y bytes maxL ret n) (vk : VK y) (hcl : vwCl[ci]? = some (y.cls, T, N)) (hc : gC h k = some ci) (hn : As.length = n) (hW : (st.map fun v => v.category).sum ≤ 8) (hrc : rm.cells = 0) (hrs : rm.slots = 0) (hR : rm.frames + 1 ≤ R.frames ∧ 8 + (maxL + 11) + rm.locals ≤ R.locals) (hf : cells ≤ R.cells ∧ slots ≤ R.slots) (hst : st0 = As.reverse ++ .ref (m_b G + k) :: st) (hdg : decode cc pc = .ok (.invokevirtual index, 3)) (kk : ∀ (r : Nat) (h2 : MH), Post r h2 → WG p l e R s m args below meth c cells slots Q G nL lv (pc + 3) (.ref (m_b G + r) :: st) h2) : WG p l e R s m args below meth c cells slots Q G nL lv pc st0 h :=
  x_callVNr (mc := 0) (ms := 0) C0 hM hl mk vk hcl hc hn hW hrc hrs hR hf hst hdg kk
theorem x_callSr0 (C0 : Cx G p s m args c cc nL own) {Post : Nat → MH → Prop} (hM : Met l y (Cond.code y bytes maxL ret :: lw_good) rm (va_Pc (As) (Wd G h)) (va_Qr (fun u : Nat × MH => Post u.1 u.2) (fun u a t => a = m_b G + u.1 ∧ Wd G u.2 t) (mA G)) 0 0 (mA G)) (hl : Cond.methodLink own index y ∈ lw_good) (mk : MK y bytes maxL ret n) (sk : Cond.static y ∈ lw_good) (hn : As.length = n) (hW : (st.map fun v => v.category).sum ≤ 8) (hrc : rm.cells = 0) (hrs : rm.slots = 0) (hR : rm.frames + 1 ≤ R.frames ∧ 8 + (maxL + 11) + rm.locals ≤ R.locals) (hf : cells ≤ R.cells ∧ slots ≤ R.slots) (hst : st0 = As.reverse ++ st) (hdg : decode cc pc = .ok (.invokestatic index, 3)) (kk : ∀ (r : Nat) (h2 : MH), Post r h2 → WG p l e R s m args below meth c cells slots Q G nL lv (pc + 3) (.ref (m_b G + r) :: st) h2) : WG p l e R s m args below meth c cells slots Q G nL lv pc st0 h :=
  x_callSr (mc := 0) (ms := 0) C0 hM hl mk sk hn hW hrc hrs hR hf hst hdg kk
theorem x_callSNr0 (C0 : Cx G p s m args c cc nL own) {Post : Nat → MH → Prop} {host : String} (hM : Met l y (Cond.code y bytes maxL ret :: lw_good) rm (va_Pc (As) (Wd G h)) (va_Qr (fun u : Nat × MH => Post u.1 u.2) (fun u a t => a = m_b G + u.1 ∧ Wd G u.2 t) (mA G)) 0 0 (mA G)) (hl : va_Nw (.methodLinkNest own index y host) s) (mk : MK y bytes maxL ret n) (sk : Cond.static y ∈ lw_good) (hn : As.length = n) (hW : (st.map fun v => v.category).sum ≤ 8) (hrc : rm.cells = 0) (hrs : rm.slots = 0) (hR : rm.frames + 1 ≤ R.frames ∧ 8 + (maxL + 11) + rm.locals ≤ R.locals) (hf : cells ≤ R.cells ∧ slots ≤ R.slots) (hst : st0 = As.reverse ++ st) (hdg : decode cc pc = .ok (.invokestatic index, 3)) (kk : ∀ (r : Nat) (h2 : MH), Post r h2 → WG p l e R s m args below meth c cells slots Q G nL lv (pc + 3) (.ref (m_b G + r) :: st) h2) : WG p l e R s m args below meth c cells slots Q G nL lv pc st0 h :=
  x_callSNr (mc := 0) (ms := 0) C0 hM hl mk sk hn hW hrc hrs hR hf hst hdg kk
end MT
section ML
variable {p : Program} {l : Launch} {e : Env} {R : Room} {s : State} {m : MethodId} {args : Array Value} {below : List Frame} {meth : Method} {c : Code} {cells slots : Nat} {Q : State → Prop} {G : mG} {cc : ByteArray} {nL : Nat} {own : String} {lv : List (Nat × Value)} {pc : Nat} {st : List Value} {h : MH}
theorem m_nwA (C0 : Cx G p s m args c cc nL own) {w : Cond} (hw : w ∈ m_nest) : va_Nw w s := C0.St.2.1 w hw
theorem m_ao0 (C0 : Cx G p s m args c cc nL own) : va_AO "BassRealiser$Chord" s := C0.St.2.2 _ (List.mem_of_getElem? (i := 0) rfl)
theorem m_ao1 (C0 : Cx G p s m args c cc nL own) : va_AO "BassRealiser$Column" s := C0.St.2.2 _ (List.mem_of_getElem? (i := 1) rfl)
theorem x_scr (C0 : Cx G p s m args c cc nL own) {xb xL : Nat} {xs : Nat → Int32} {i : Int32} (hX : va_X xb xL xs s s.heap) (hbl : xb < s.heap.size) (hb0 : m_b G = s.heap.size) (hin : vp_in i xL) (hdg : decode cc pc = .ok (.iaload, 1)) (kk : WG p l e R s m args below meth c cells slots Q G nL lv (pc + 1) (.int (xs i.toNatClampNeg) :: st) h) : WG p l e R s m args below meth c cells slots Q G nL lv pc (.int i :: .ref xb :: st) h := fun H locs ls hw hv => va_sld C0.ex C0.by hX hbl (show ¬ mA G xb from fun q => Nat.not_le.mpr hbl (hb0 ▸ q)) hw.2.2 hin hdg (kk H locs ls hw hv)
theorem x_scl (C0 : Cx G p s m args c cc nL own) {xb xL : Nat} {xs : Nat → Int32} (hX : va_X xb xL xs s s.heap) (hbl : xb < s.heap.size) (hb0 : m_b G = s.heap.size) (hdg : decode cc pc = .ok (.arraylength, 1)) (kk : WG p l e R s m args below meth c cells slots Q G nL lv (pc + 1) (.int (nI xL) :: st) h) : WG p l e R s m args below meth c cells slots Q G nL lv pc (.ref xb :: st) h := fun H locs ls hw hv => va_slen C0.ex C0.by hX hbl (show ¬ mA G xb from fun q => Nat.not_le.mpr hbl (hb0 ▸ q)) hw.2.2 hdg (kk H locs ls hw hv)
theorem x_lret {xb : Nat} (C0 : Cx G p s m #[Value.ref xb] c code nL own) (hr : meth.sig.returnType = ret) (hlk : meth.locks = false) (hb0 : m_b G = s.heap.size) (hdg : decode code pc = .ok (.ireturn, 1)) : WG p l e room_1 s m #[Value.ref xb] below meth c 600000 7302250 (lw_Z below #[Value.ref xb] s) G nL lv pc [.int 1] h := fun H locs ls hw hv => va_forget (fun q hq => by rw [← hb0]; exact hw.2.2.2.2 q hq) (lw_ret C0.ex C0.by hr hlk hdg)
end ML
