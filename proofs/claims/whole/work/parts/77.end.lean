def mu0 (k : Nat) : Nat → Int32 :=
  if k = 4 ∨ k = 118 then upd (upd (upd (fun _ => 0) 0 60) 1 55) 2 48
  else if k = 5 ∨ k = 119 then upd (upd (upd (fun _ => 0) 0 81) 1 74) 2 69
  else if k = 6 ∨ k = 120 then upd (upd (upd (fun _ => 0) 0 72) 1 67) 2 60
  else if k = 1 then (fun j => if j = 5 then -1 else 0)
  else if k = 3 then (fun j => if j = 3 then 12 else 0)
  else if k = 113 then (fun j => if j = 10 then 12 else 0)
  else if 8 ≤ k ∧ k < 104 ∧ k % 8 = 0 then (fun j => if j = 6 then -1 else 0)
  else fun _ => 0
def l00 : Nat → Int64 := fun _ => 0
def cells : List MC := pre3 ++ (bl 12 ++ tl2) ++ (rmC 113 :: rmT (a3 60 55 48) (a3 81 74 69) (a3 72 67 60))
theorem cells_len : cells.length = 134 := by
  unfold cells
  rw [List.length_append, List.length_append, List.length_append, bl_len]; rfl
theorem Hc_out {k : Nat} (h : 134 ≤ k) (m : Nat → Int32) (l : Nat → Int64) : Hc k m l = .inl (0, []) := by
  have e : 46 ≤ kd k := by
    unfold kd
    rw [if_neg (by omega), if_neg (by omega)]
    omega
  unfold Hc
  split <;> first | rfl | (exfalso; omega)
set_option maxRecDepth 100000 in
set_option maxHeartbeats 8000000 in
theorem cells_e : cells = (List.range 134).map (fun k => Hc k (mu0 k) l00) := rfl
theorem cells_H : lh cells = Hm mu0 l00 := by
  refine Prod.ext (by show cells.length = 134; exact cells_len) (funext fun k => ?_)
  show cells.getD k (.inl (0, [])) = Hc k (mu0 k) l00
  by_cases h : k < 134
  · rw [cells_e, List.getD_eq_getElem?_getD, List.getElem?_map, List.getElem?_range h]
    rfl
  · rw [Hc_out (by omega), List.getD_eq_getElem?_getD, List.getElem?_eq_none (by rw [cells_len]; omega)]
    rfl
def s00 : SG := mkS 0 0 12 (fun _ => 0) (fun _ => 0) (fun _ => 0) (fun _ _ => 0) (fun v => if v = 0 then 60 else if v = 1 then 55 else 48) (fun v => if v = 0 then 81 else if v = 1 then 74 else 69) (fun v => if v = 0 then 72 else if v = 1 then 67 else 60) (fun _ _ => -1) (fun _ => none)
theorem v3 {P : Nat → Prop} (h0 : P 0) (h1 : P 1) (h2 : P 2) : ∀ v, v < 3 → P v := by
  intro v hv
  match v, hv with
  | 0, _ => exact h0
  | 1, _ => exact h1
  | 2, _ => exact h2
theorem wf00 : WF s00 := by
  refine ⟨by decide, by decide, by decide, fun i hi => absurd hi (Nat.not_lt_zero _), fun i hi => absurd hi (Nat.not_lt_zero _), v3 (by decide) (by decide) (by decide), fun i hi => absurd hi (Nat.not_lt_zero _), fun i hi => absurd hi (Nat.not_lt_zero _)⟩
theorem rc00 : RC s00 mu0 := by
  refine ⟨⟨⟨by decide, by decide, by decide, v3 (by decide) (by decide) (by decide)⟩, fun i hi => absurd hi (Nat.not_lt_zero _)⟩, fun i hi => absurd hi (Nat.not_lt_zero _), Or.inl (by decide)⟩
theorem rr00 : RR s00 mu0 l00 := by
  refine ⟨⟨by decide, by decide, by decide, fun i hi => absurd hi (Nat.not_lt_zero _), fun i hi => absurd hi (Nat.not_lt_zero _), v3 (by decide) (by decide) (by decide), fun i hi => absurd hi (Nat.not_lt_zero _), fun i hi => absurd hi (Nat.not_lt_zero _)⟩, Or.inl (by decide)⟩
set_option maxHeartbeats 4000000 in
theorem law_pure (L : Nat) (xs : Nat → Int32) (hL : L ≤ 2560) : wp_Lw_law (L, xs) 0 0 h_nil := by
  have e0 : h_nil = lh [] := rfl
  rw [e0]
  unfold wp_Lw_law
  refine ⟨by decide, fun k h ek eh => ?_⟩
  obtain rfl := ek.trans (show _ = 0 from rfl)
  obtain rfl := eh.trans (l_new _ _)
  refine ⟨by decide, sp_Br_init ?_⟩
  refine ⟨by decide, fun k h ek eh => ?_⟩
  have l1 : (pre3 ++ (bl 12 ++ tl2)).length = 113 := by rw [List.length_append, List.length_append, bl_len]; rfl
  have eh2 : h = lh ((pre3 ++ (bl 12 ++ tl2)) ++ [rmZ]) := eh.trans (l_new _ _)
  have ek2 : k = 113 := ek.trans l1
  subst eh2 ek2
  refine ⟨by decide, sp_Rm_init l1 ?_⟩
  have fin := law18 (xs := xs) hL (cn := 0 + 1 + 112 + 1 + 20) (sn2 := 0 + 5 + 5831 + 26 + 48309) (by decide) (L / 5 + 1) 0 s00 mu0 l00 (by omega) (by omega) rc00 rr00 wf00
  have ce : lh ((pre3 ++ (bl 12 ++ tl2)) ++ (rmC 113 :: rmT (a3 60 55 48) (a3 81 74 69) (a3 72 67 60))) = Hm mu0 l00 := cells_H
  rw [← ce] at fin
  exact ⟨_, fin⟩
