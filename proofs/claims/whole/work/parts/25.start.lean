theorem m_nest_in : ∀ w ∈ m_nest, w ∈ tables_1 := by decide +kernel
theorem st_one {args : Array Value} {s : State} {A : Nat → Prop} {C n : String} (zs : List Int32) (hN : zs.length < 2 ^ 31) (hl : (Cond.laysStatic C n "[I").before args s = true) (hi : (Cond.initialized C).before args s = true) (harr : (Cond.arrayOf (.static C n "[I") .int).before args s = true) (hlen : (Cond.eq (.length (.static C n "[I")) (.int (Int32.ofNat zs.length))).before args s = true) (hel : ∀ j, j < zs.length → (Cond.eq (.elem (.static C n "[I") (.int (Int32.ofNat j))) (.int (zs.getD j 0))).before args s = true) (hA : ∀ a, a < s.heap.size → ¬ A a) : ∃ t : Nat, va_Z C n "[I" (.ref t) A s s.heap ∧ va_T .int t zs.length (fun j => .int (zs.getD j 0)) A s s.heap := by
  obtain ⟨t, ht, hT⟩ := va_Tof (f := fun j => .int (zs.getD j 0)) (A := A) hN harr (va_eqt hlen) (fun j hj => va_eqt (hel j hj)) hA
  exact ⟨t, va_Zof hl hi ht hA, hT⟩
theorem ac_prim {args : Array Value} {s : State} {ty : FieldType} (h : (Cond.arrayClass ty).before args s = true) : ∃ cA : ClassId, ArrOfT s cA ty ∧ s.vm.findClass ("[" ++ ty.toString) = some cA := by
  obtain ⟨cA, k, comp, h1, h2, h3⟩ := Cond.arrayClass_spec h
  exact ⟨cA, fun N z => ⟨(fun k h => by cases h), k, h2, comp, h3⟩, h1⟩
theorem ac_obj {args : Array Value} {s : State} {C : String} (h : (Cond.arrayOver (.object C)).before args s = true) : ∃ cA : ClassId, ArrOfT s cA (.object C) ∧ va_RA s cA (.object C) := by
  obtain ⟨comp, cA, k, h1, -, h2, h3, h4⟩ := Cond.arrayOver_spec h
  exact ⟨cA, fun N z => ⟨(fun k h => by cases h), k, h2, comp, h3⟩, k, comp, h2, h3, h1, h4⟩
def h_nil : MH := (0, fun _ => .inl (0, []))
set_option maxHeartbeats 4000000 in
set_option maxRecDepth 100000 in
theorem start_of {p : Program} {e : Env} {s : State} {m : MethodId} {below : List Frame} {meth : Method} {c : Code} (l : Launch) {b L : Nat} {xs : Nat → Int32} (hwp : wp_Lw_law (L, xs) 0 0 h_nil) (C0 : lw_At p s m meth c b L xs) : W p l e room_1 s m #[Value.ref b] below meth c s.heap [] 0 0 (lw_Z below #[Value.ref b] s) (entryFrame m ([Value.ref b] : List Value).toArray 4) := by
  obtain ⟨hx, hb, hr, hml, hown, hts, hX, hbl, hlocks, hgv⟩ := id C0
  have hg : ∀ w ∈ lw_good, w.before #[Value.ref b] s = true := fun w h => hts w (List.mem_filter.mp h).1
  have hs := flat_of_before _ hgv
  obtain ⟨c0, i0, hk0⟩ := u_known (C := "BassRealiser$Chord") (T := T_0) (N := 11) (n := 11) hg iw_0 (hg _ kw_1_59)
  obtain ⟨c1, i1, hk1⟩ := u_known (C := "BassRealiser$Column") (T := T_1) (N := 6) (n := 6) hg iw_1 (hg _ kw_1_112)
  obtain ⟨c2, i2, hk2⟩ := u_known (C := "BassRealiser$Move") (T := T_2) (N := 6) (n := 6) hg iw_2 (hg _ kw_1_146)
  obtain ⟨c3, i3, hk3⟩ := u_known (C := "BassRealiser$Rules") (T := T_3) (N := 5) (n := 5) hg iw_3 (hg _ kw_1_27)
  obtain ⟨c4, i4, hk4⟩ := u_known (C := "BassRealiser$Search") (T := T_4) (N := 9) (n := 9) hg iw_4 (hg _ kw_1_19)
  obtain ⟨c5, i5, hk5⟩ := u_known (C := "BassRealiser") (T := T_5) (N := 5) (n := 5) hg iw_5 (hg _ kw_1_11)
  obtain ⟨c6, i6, hk6⟩ := u_known (C := "BassRealiserModel") (T := T_6) (N := 26) (n := 26) hg iw_6 (hg _ kw_3_82)
  obtain ⟨a0, ha0, hb0⟩ := ac_prim (hg _ kw_1_56)
  obtain ⟨a1, ha1, hb1⟩ := ac_prim (hg _ kw_1_144)
  obtain ⟨a2, ha2, hb2⟩ := ac_prim (hg _ kw_3_166)
  have hm3 : (Jvm.Cond.arrayOver (Jvm.ClassFile.FieldType.object "BassRealiser$Chord")) ∈ tables_1_1 ++ (tables_1_2 ++ (tables_1_3 ++ (tables_1_4))) := List.mem_append_left _ (List.mem_of_getElem? (i := 25) (by decide +kernel))
  have ho3 := hts _ (List.mem_append_right _ hm3)
  obtain ⟨a3, ha3, hb3⟩ := ac_obj ho3
  have hm4 : (Jvm.Cond.arrayOver (Jvm.ClassFile.FieldType.object "BassRealiser$Column")) ∈ tables_1_1 ++ (tables_1_2 ++ (tables_1_3 ++ (tables_1_4))) := List.mem_append_left _ (List.mem_of_getElem? (i := 58) (by decide +kernel))
  have ho4 := hts _ (List.mem_append_right _ hm4)
  obtain ⟨a4, ha4, hb4⟩ := ac_obj ho4
  have hA : ∀ a, a < s.heap.size → ¬ (fun q : Nat => s.heap.size ≤ q) a := fun a h => Nat.not_le.mpr h
  have hz0 : (Jvm.Cond.laysStatic "BassRealiser" "STEPS" "[I") ∈ tables_1_1 ++ (tables_1_2 ++ (tables_1_3 ++ (tables_1_4))) := List.mem_append_right _ (List.mem_append_left _ (List.mem_of_getElem? (i := 4) (by decide +kernel)))
  obtain ⟨t0, hZ0, hT0⟩ := st_one (C := "BassRealiser") (n := "STEPS") (m_sL 0) (by decide) (hts _ (List.mem_append_right _ hz0)) (hg _ kw_1_1) (hs _ (by decide +kernel)) (hs _ (by decide +kernel)) (fun j hj => by
    have hj : j < 7 := hj
    match j, hj with
    | 0, _ => exact hs _ (by decide +kernel)
    | 1, _ => exact hs _ (by decide +kernel)
    | 2, _ => exact hs _ (by decide +kernel)
    | 3, _ => exact hs _ (by decide +kernel)
    | 4, _ => exact hs _ (by decide +kernel)
    | 5, _ => exact hs _ (by decide +kernel)
    | 6, _ => exact hs _ (by decide +kernel)
    | n + 7, h => exact absurd h (by omega)) hA
  have hz1 : (Jvm.Cond.laysStatic "BassRealiser" "SHARPS" "[I") ∈ tables_1_1 ++ (tables_1_2 ++ (tables_1_3 ++ (tables_1_4))) := List.mem_append_right _ (List.mem_append_left _ (List.mem_of_getElem? (i := 17) (by decide +kernel)))
  obtain ⟨t1, hZ1, hT1⟩ := st_one (C := "BassRealiser") (n := "SHARPS") (m_sL 1) (by decide) (hts _ (List.mem_append_right _ hz1)) (hg _ kw_1_1) (hs _ (by decide +kernel)) (hs _ (by decide +kernel)) (fun j hj => by
    have hj : j < 7 := hj
    match j, hj with
    | 0, _ => exact hs _ (by decide +kernel)
    | 1, _ => exact hs _ (by decide +kernel)
    | 2, _ => exact hs _ (by decide +kernel)
    | 3, _ => exact hs _ (by decide +kernel)
    | 4, _ => exact hs _ (by decide +kernel)
    | 5, _ => exact hs _ (by decide +kernel)
    | 6, _ => exact hs _ (by decide +kernel)
    | n + 7, h => exact absurd h (by omega)) hA
  have hz2 : (Jvm.Cond.laysStatic "BassRealiser" "FLATS" "[I") ∈ tables_1_1 ++ (tables_1_2 ++ (tables_1_3 ++ (tables_1_4))) := List.mem_append_right _ (List.mem_append_left _ (List.mem_of_getElem? (i := 19) (by decide +kernel)))
  obtain ⟨t2, hZ2, hT2⟩ := st_one (C := "BassRealiser") (n := "FLATS") (m_sL 2) (by decide) (hts _ (List.mem_append_right _ hz2)) (hg _ kw_1_1) (hs _ (by decide +kernel)) (hs _ (by decide +kernel)) (fun j hj => by
    have hj : j < 7 := hj
    match j, hj with
    | 0, _ => exact hs _ (by decide +kernel)
    | 1, _ => exact hs _ (by decide +kernel)
    | 2, _ => exact hs _ (by decide +kernel)
    | 3, _ => exact hs _ (by decide +kernel)
    | 4, _ => exact hs _ (by decide +kernel)
    | 5, _ => exact hs _ (by decide +kernel)
    | 6, _ => exact hs _ (by decide +kernel)
    | n + 7, h => exact absurd h (by omega)) hA
  let G : mG := ((fun k => match k with | 0 => c0 | 1 => c1 | 2 => c2 | 3 => c3 | 4 => c4 | 5 => c5 | _ => c6, fun k => match k with | 0 => i0 | 1 => i1 | 2 => i2 | 3 => i3 | 4 => i4 | 5 => i5 | _ => i6), fun k => match k with | 0 => a0 | 1 => a1 | 2 => a2 | 3 => a3 | _ => a4, fun k => match k with | 0 => t0 | 1 => t1 | _ => t2, s.heap.size)
  have hK : va_K G.1 vwCl (m_tys G) s := by
    refine ⟨fun k q hq => ?_, fun k q hq => ?_⟩
    · match k, hq with
      | 0, hq => cases hq; exact hk0
      | 1, hq => cases hq; exact hk1
      | 2, hq => cases hq; exact hk2
      | 3, hq => cases hq; exact hk3
      | 4, hq => cases hq; exact hk4
      | 5, hq => cases hq; exact hk5
      | 6, hq => cases hq; exact hk6
      | k + 7, hq => simp [vwCl] at hq
    · match k, hq with
      | 0, hq => cases hq; exact ⟨ha0, hb0⟩
      | 1, hq => cases hq; exact ⟨ha1, hb1⟩
      | 2, hq => cases hq; exact ⟨ha2, hb2⟩
      | 3, hq => cases hq; exact ⟨ha3, hb3⟩
      | 4, hq => cases hq; exact ⟨ha4, hb4⟩
      | k + 5, hq => simp [m_tys] at hq
  have hSt : m_St G s s.heap := by
    refine ⟨fun t ht => ?_, fun w hw => ?_, fun C hC => ?_⟩
    · have ht : t < 3 := ht
      match t, ht with
      | 0, _ => exact ⟨hZ0, hT0⟩
      | 1, _ => exact ⟨hZ1, hT1⟩
      | 2, _ => exact ⟨hZ2, hT2⟩
      | n + 3, h => exact absurd h (by omega)
    · exact va_Nw.of (m_nest_on w hw) (hts w (List.mem_append_right _ (m_nest_in w hw)))
    · rcases List.mem_cons.mp hC with rfl | hC
      · exact va_AO.of ho3
      · rcases List.mem_cons.mp hC with rfl | hC
        · exact va_AO.of ho4
        · exact absurd hC List.not_mem_nil
  have CC : Cx G p s m #[Value.ref b] c code 4 "BassRealiserLaw" := ⟨⟨hx, hb, hml, hown, hg⟩, hK, hSt, Nat.le_refl _⟩
  have hw : Wo G s h_nil s.heap [] := ⟨fun k q h => absurd h (by simp [wl, h_nil]), rfl, va_S.rf⟩
  have hl := lv_entry ([.ref b]) (n := 4) (Nat.le_of_ble_eq_true rfl)
  rw [lg_entry_eq]
  exact t_Lw_law (Post := (L, xs)) G CC ⟨Nat.le_refl _, Nat.le_refl _, Nat.le_refl _, Nat.le_refl _⟩ hr hlocks hX hbl rfl _ _ _ hwp _ _ _ hw hl
