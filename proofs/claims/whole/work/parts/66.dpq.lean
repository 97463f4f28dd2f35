theorem cap_add {a b c d : Nat} (h : cap a = cap c) (g : cap b = cap d) : cap (a + b) = cap (c + d) := by
  unfold cap MANYN at *
  split at h <;> split at h <;> split at g <;> split at g <;> split <;> split <;> omega
theorem cap_cap (a : Nat) : cap (cap a) = cap a := by
  unfold cap MANYN
  split <;> simp_all
theorem cap_0 (a : Nat) : cap a = 0 ↔ a = 0 := by
  unfold cap MANYN
  split <;> omega
theorem cap_p (a : Nat) : 0 < cap a ↔ 0 < a := by
  have := cap_0 a
  omega
theorem cap_sum {f g : Nat → Nat} : ∀ {n : Nat}, (∀ k, k < n → cap (f k) = cap (g k)) → cap (sumTo f n) = cap (sumTo g n)
  | 0, _ => rfl
  | n + 1, h => cap_add (cap_sum (fun k hk => h k (by omega))) (h n (by omega))
theorem sumTo_pos {f : Nat → Nat} : ∀ {n k : Nat}, k < n → 0 < f k → 0 < sumTo f n
  | n + 1, k, hk, h => by
    rw [sumTo_s]
    by_cases e : k = n
    · subst e; omega
    · have := sumTo_pos (f := f) (n := n) (k := k) (by omega) h
      omega
theorem sumTo_ex {f : Nat → Nat} : ∀ {n : Nat}, 0 < sumTo f n → ∃ k, k < n ∧ 0 < f k
  | 0, h => absurd h (Nat.lt_irrefl 0)
  | n + 1, h => by
    rw [sumTo_s] at h
    by_cases e : 0 < f n
    · exact ⟨n, by omega, e⟩
    · obtain ⟨k, hk, q⟩ := sumTo_ex (f := f) (n := n) (by omega)
      exact ⟨k, by omega, q⟩
theorem sumTo_sw (F : Nat → Nat → Nat) (m : Nat) : ∀ n, sumTo (fun j => sumTo (fun k => F j k) m) n = sumTo (fun k => sumTo (fun j => F j k) n) m
  | 0 => (sumTo_0 (f := fun k => sumTo (fun j => F j k) 0) (n := m) (fun _ _ => rfl)).symm
  | n + 1 => by
    rw [sumTo_s, sumTo_sw F m n]
    exact (sumTo_a m).symm
def Fw (s : SG) : Nat → Nat → Nat
  | 0 => fun k => if okS s k then 1 else 0
  | i + 1 => fun k => sumTo (fun j => if okM s (i + 1) j k = true then Fw s i j else 0) (sz s i)
theorem Fw_s (s : SG) (i k : Nat) : Fw s (i + 1) k = sumTo (fun j => if okM s (i + 1) j k = true then Fw s i j else 0) (sz s i) := rfl
theorem Rw_s (s : SG) (i k : Nat) : Rw s (i + 1) k = cap (sumTo (rwF s i k) (sz s i)) := rfl
theorem Rw_cap (s : SG) : ∀ i k, Rw s i k = cap (Fw s i k) := by
  intro i
  induction i with
  | zero =>
    intro k
    show (if okS s k then 1 else 0) = cap (if okS s k then 1 else 0)
    cases okS s k <;> decide
  | succ i ih =>
    intro k
    rw [Rw_s, Fw_s]
    refine cap_sum (fun j _ => ?_)
    unfold rwF
    rw [ih j]
    have := cap_p (Fw s i j)
    by_cases e : okM s (i + 1) j k = true
    · by_cases q : 0 < cap (Fw s i j)
      · rw [if_pos ⟨q, e⟩, if_pos e, cap_cap]
      · rw [if_neg (fun z => q z.1), if_pos e, show Fw s i j = 0 by omega]
    · rw [if_neg (fun z => e z.2), if_neg e]
theorem Rw_p (s : SG) (i k : Nat) : 0 < Rw s i k ↔ 0 < Fw s i k := by rw [Rw_cap, cap_p]
theorem Rw_go {s : SG} {i j k : Nat} (hj : j < sz s i) (h : 0 < Rw s i j) (e : okM s (i + 1) j k = true) : 0 < Rw s (i + 1) k := by
  rw [Rw_p] at *
  rw [Fw_s]
  exact sumTo_pos hj (by rw [if_pos e]; exact h)
theorem Rw_from {s : SG} {i k : Nat} (h : 0 < Rw s (i + 1) k) : ∃ j, j < sz s i ∧ 0 < Rw s i j ∧ okM s (i + 1) j k = true := by
  rw [Rw_p, Fw_s] at h
  obtain ⟨j, hj, q⟩ := sumTo_ex h
  by_cases e : okM s (i + 1) j k = true
  · rw [if_pos e] at q; exact ⟨j, hj, (Rw_p s i j).mpr q, e⟩
  · rw [if_neg e] at q; omega
def Bk (s : SG) : Nat → Nat → Nat
  | 0 => fun _ => 1
  | d + 1 => fun j => sumTo (fun k => if okM s (sn s - 1 - d) j k = true then Bk s d k else 0) (sz s (sn s - 1 - d))
theorem Bk_s (s : SG) (d j : Nat) : Bk s (d + 1) j = sumTo (fun k => if okM s (sn s - 1 - d) j k = true then Bk s d k else 0) (sz s (sn s - 1 - d)) := rfl
def BkT (s : SG) (q k : Nat) : Nat := Bk s (sn s - 1 - q) k
theorem BkT_s {s : SG} {i : Nat} (hi : i + 1 < sn s) (j : Nat) : BkT s i j = sumTo (fun k => if okM s (i + 1) j k = true then BkT s (i + 1) k else 0) (sz s (i + 1)) := by
  unfold BkT
  rw [show sn s - 1 - i = (sn s - 1 - (i + 1)) + 1 by omega, Bk_s, show sn s - 1 - (sn s - 1 - (i + 1)) = i + 1 by omega]
theorem BkT_l {s : SG} {i : Nat} (hi : i + 1 = sn s) (j : Nat) : BkT s i j = 1 := by
  unfold BkT
  rw [show sn s - 1 - i = 0 by omega]
  rfl
def WT (s : SG) (q k : Nat) : Nat := if 0 < Rw s q k then cap (BkT s q k) else 0
theorem WT_le (s : SG) (q k : Nat) : WT s q k ≤ 1000000000 := by
  unfold WT; split
  · exact cap_le _
  · omega
theorem WT_0 (s : SG) (q k : Nat) : ¬ WT s q k = 0 ↔ (0 < Rw s q k ∧ 0 < BkT s q k) := by
  unfold WT
  have := cap_0 (BkT s q k)
  split
  · rename_i h
    exact ⟨fun e => ⟨h, by omega⟩, fun e => by omega⟩
  · rename_i h
    exact ⟨fun e => absurd rfl e, fun e => absurd e.1 h⟩
def wtF (s : SG) (i j : Nat) : Nat → Nat := fun k => if okM s (i + 1) j k = true then WT s (i + 1) k else 0
theorem WT_s {s : SG} {i j : Nat} (hi : i + 1 < sn s) (hj : j < sz s i) (h : 0 < Rw s i j) : cap (sumTo (wtF s i j) (sz s (i + 1))) = WT s i j := by
  unfold WT
  rw [if_pos h, BkT_s hi]
  refine cap_sum (fun k _ => ?_)
  unfold wtF
  by_cases e : okM s (i + 1) j k = true
  · rw [if_pos e, if_pos e]
    unfold WT
    rw [if_pos (Rw_go hj h e), cap_cap]
  · rw [if_neg e, if_neg e]
theorem WT_l {s : SG} {i j : Nat} (hi : i + 1 = sn s) : WT s i j = if 0 < Rw s i j then 1 else 0 := by
  unfold WT
  rw [BkT_l hi]
  rfl
theorem minTo_at {f : Nat → Nat} {b : Nat} : ∀ {n k : Nat}, k < n → minTo f b n ≤ f k
  | n + 1, k, hk => by
    show (if f n < minTo f b n then f n else minTo f b n) ≤ f k
    by_cases e : k = n
    · subst e; split <;> omega
    · have := minTo_at (f := f) (b := b) (n := n) (k := k) (by omega)
      split <;> omega
theorem minTo_ex {f : Nat → Nat} {b : Nat} : ∀ {n : Nat}, minTo f b n < b → ∃ k, k < n ∧ f k = minTo f b n
  | 0, h => absurd h (Nat.lt_irrefl b)
  | n + 1, h => by
    have u : minTo f b (n + 1) = if f n < minTo f b n then f n else minTo f b n := rfl
    by_cases e : f n < minTo f b n
    · rw [u, if_pos e]; exact ⟨n, by omega, rfl⟩
    · rw [u, if_neg e] at h ⊢
      obtain ⟨k, hk, q⟩ := minTo_ex (f := f) (b := b) (n := n) h
      exact ⟨k, by omega, q⟩
theorem rb {s : SG} (hw : WF s) : ∀ d i, i + d + 1 = sn s → ∀ j, j < sz s i → (RsT s i j < FARN ↔ 0 < BkT s i j) ∧ (RsT s i j < FARN → RsT s i j ≤ 381 * d) := by
  have h12 := hw.n
  intro d
  induction d with
  | zero =>
    intro i hi j hj
    rw [RsT_l (by omega), BkT_l (by omega)]
    exact ⟨⟨fun _ => by decide, fun _ => by decide⟩, fun _ => by omega⟩
  | succ d ih =>
    intro i hi j hj
    rw [RsT_s (by omega), BkT_s (by omega)]
    have I := ih (i + 1) (by omega)
    have cm : ∀ k, k < sz s (i + 1) → csM (vv s (i + 1) k) (vv s i j) ≤ 381 := fun k hk => csM_le (vv_rg hw (by omega) hk) (vv_rg hw (by omega) hj)
    have F : ∀ k, k < sz s (i + 1) → rsF s i j k < FARN → (okM s (i + 1) j k = true ∧ RsT s (i + 1) k < FARN ∧ rsF s i j k ≤ 381 * (d + 1)) := by
      intro k hk h
      unfold rsF at h ⊢
      by_cases e : RsT s (i + 1) k < FARN ∧ okM s (i + 1) j k = true
      · rw [if_pos e] at h ⊢
        have := (I k hk).2 e.1
        have := cm k hk
        exact ⟨e.2, e.1, by omega⟩
      · rw [if_neg e] at h; exact absurd h (Nat.lt_irrefl _)
    refine ⟨⟨fun h => ?_, fun h => ?_⟩, fun h => ?_⟩
    · obtain ⟨k, hk, q⟩ := minTo_ex h
      have f := F k hk (by rw [q]; exact h)
      exact sumTo_pos hk (by rw [if_pos f.1]; exact (I k hk).1.mp f.2.1)
    · obtain ⟨k, hk, q⟩ := sumTo_ex h
      by_cases e : okM s (i + 1) j k = true
      · rw [if_pos e] at q
        have r := (I k hk).1.mpr q
        have r2 := (I k hk).2 r
        have c := cm k hk
        have m := minTo_at (f := rsF s i j) (b := FARN) hk
        have : rsF s i j k = csM (vv s (i + 1) k) (vv s i j) + RsT s (i + 1) k := by unfold rsF; rw [if_pos ⟨r, e⟩]
        unfold FARN at *
        omega
      · rw [if_neg e] at q; omega
    · obtain ⟨k, hk, q⟩ := minTo_ex h
      have f := F k hk (by rw [q]; exact h)
      omega
theorem rb2 {s : SG} (hw : WF s) {i j : Nat} (hi : i < sn s) (hj : j < sz s i) : (RsT s i j < FARN ↔ 0 < BkT s i j) ∧ (RsT s i j < FARN → RsT s i j ≤ 4191) := by
  have h12 := hw.n
  have := rb hw (sn s - 1 - i) i (by omega) j hj
  exact ⟨this.1, fun h => by have := this.2 h; omega⟩
theorem rs_wt {s : SG} (hw : WF s) {i j k : Nat} (hi : i + 1 < sn s) (hj : j < sz s i) (h : 0 < Rw s i j) (hk : k < sz s (i + 1)) : (wtF s i j k = 0 → rsF s i j k = FARN) ∧ (¬ wtF s i j k = 0 → okM s (i + 1) j k = true ∧ ¬ WT s (i + 1) k = 0 ∧ rsF s i j k = csM (vv s (i + 1) k) (vv s i j) + RsT s (i + 1) k ∧ RsT s (i + 1) k ≤ 4191 ∧ csM (vv s (i + 1) k) (vv s i j) ≤ 381) := by
  have r := rb2 hw hi hk
  have w := WT_0 s (i + 1) k
  unfold wtF rsF
  by_cases e : okM s (i + 1) j k = true
  · have g := Rw_go hj h e
    rw [if_pos e]
    refine ⟨fun q => ?_, fun q => ?_⟩
    · rw [if_neg]
      intro z
      exact w.mpr ⟨g, r.1.mp z.1⟩ q
    · have b := w.mp q
      have z := r.1.mpr b.2
      rw [if_pos ⟨z, e⟩]
      exact ⟨e, q, rfl, r.2 z, csM_le (vv_rg hw (by omega) hk) (vv_rg hw (by omega) hj)⟩
  · rw [if_neg e]
    exact ⟨fun _ => by rw [if_neg (fun z => e z.2)], fun q => absurd rfl q⟩
def QT (s : SG) (q k : Nat) : Nat := if WT s q k = 0 then 0 else RsT s q k
def lea (s : SG) (i j m : Nat) : Nat := if sumTo (wtF s i j) m = 0 then 0 else minTo (rsF s i j) FARN m
theorem minTo_F {s : SG} (hw : WF s) {i j : Nat} (hi : i + 1 < sn s) (hj : j < sz s i) (h : 0 < Rw s i j) : ∀ m, m ≤ sz s (i + 1) → (sumTo (wtF s i j) m = 0 → minTo (rsF s i j) FARN m = FARN) ∧ (¬ sumTo (wtF s i j) m = 0 → minTo (rsF s i j) FARN m ≤ 4572)
  | 0, _ => ⟨fun _ => rfl, fun e => absurd rfl e⟩
  | m + 1, hm => by
    have I := minTo_F hw hi hj h m (by omega)
    have R := rs_wt hw hi hj h (k := m) (by omega)
    have u : minTo (rsF s i j) FARN (m + 1) = if rsF s i j m < minTo (rsF s i j) FARN m then rsF s i j m else minTo (rsF s i j) FARN m := rfl
    rw [sumTo_s, u]
    have le := minTo_le (rsF s i j) FARN m
    refine ⟨fun e => ?_, fun e => ?_⟩
    · rw [I.1 (by omega), R.1 (by omega), if_neg (Nat.lt_irrefl _)]
    · by_cases z : wtF s i j m = 0
      · have q := I.2 (by omega)
        rw [R.1 z]
        split <;> omega
      · have q := R.2 z
        split <;> omega
theorem lea_s {s : SG} (hw : WF s) {i j : Nat} (hi : i + 1 < sn s) (hj : j < sz s i) (h : 0 < Rw s i j) {m : Nat} (hm : m < sz s (i + 1)) : (wtF s i j m = 0 → lea s i j (m + 1) = lea s i j m) ∧ (¬ wtF s i j m = 0 → lea s i j (m + 1) = if sumTo (wtF s i j) m = 0 then rsF s i j m else if rsF s i j m < lea s i j m then rsF s i j m else lea s i j m) := by
  have I := minTo_F hw hi hj h m (by omega)
  have R := rs_wt hw hi hj h (k := m) (by omega)
  have u : minTo (rsF s i j) FARN (m + 1) = if rsF s i j m < minTo (rsF s i j) FARN m then rsF s i j m else minTo (rsF s i j) FARN m := rfl
  have le := minTo_le (rsF s i j) FARN m
  refine ⟨fun e => ?_, fun e => ?_⟩
  · unfold lea
    rw [sumTo_s, e, Nat.add_zero, u, R.1 e]
    by_cases z : sumTo (wtF s i j) m = 0
    · rw [if_pos z, if_pos z]
    · rw [if_neg z, if_neg z, if_neg (by omega)]
  · unfold lea
    rw [sumTo_s, if_neg (by omega), u]
    by_cases z : sumTo (wtF s i j) m = 0
    · have q := R.2 e
      rw [if_pos z, I.1 z, if_pos (by unfold FARN; omega)]
    · rw [if_neg z, if_neg z]
theorem lea_e {s : SG} {i j : Nat} (hi : i + 1 < sn s) (hj : j < sz s i) (h : 0 < Rw s i j) : lea s i j (sz s (i + 1)) = QT s i j := by
  have W := WT_s hi hj h
  unfold lea QT
  rw [← W, RsT_s hi]
  have := cap_0 (sumTo (wtF s i j) (sz s (i + 1)))
  by_cases e : sumTo (wtF s i j) (sz s (i + 1)) = 0
  · rw [if_pos e, if_pos (this.mpr e)]
  · rw [if_neg e, if_neg (fun z => e (this.mp z))]
theorem QT_le {s : SG} (hw : WF s) {i k : Nat} (hi : i < sn s) (hk : k < sz s i) : QT s i k ≤ 4191 := by
  unfold QT
  by_cases e : WT s i k = 0
  · rw [if_pos e]; omega
  · rw [if_neg e]
    have r := rb2 hw hi hk
    exact r.2 (r.1.mpr ((WT_0 s i k).mp e).2)
theorem tot_s {s : SG} {i : Nat} (hi : i + 1 < sn s) : sumTo (fun j => Fw s i j * BkT s i j) (sz s i) = sumTo (fun k => Fw s (i + 1) k * BkT s (i + 1) k) (sz s (i + 1)) := by
  have e1 : sumTo (fun j => Fw s i j * BkT s i j) (sz s i) = sumTo (fun j => sumTo (fun k => Fw s i j * (if okM s (i + 1) j k = true then BkT s (i + 1) k else 0)) (sz s (i + 1))) (sz s i) :=
    sumTo_e (fun j _ => by rw [BkT_s hi, sumTo_c])
  have e2 : sumTo (fun k => Fw s (i + 1) k * BkT s (i + 1) k) (sz s (i + 1)) = sumTo (fun k => sumTo (fun j => BkT s (i + 1) k * (if okM s (i + 1) j k = true then Fw s i j else 0)) (sz s i)) (sz s (i + 1)) :=
    sumTo_e (fun k _ => by rw [sumTo_c, Fw_s, Nat.mul_comm])
  rw [e1, e2, sumTo_sw]
  refine sumTo_e (fun k _ => sumTo_e (fun j _ => ?_))
  by_cases e : okM s (i + 1) j k = true
  · rw [if_pos e, if_pos e, Nat.mul_comm]
  · rw [if_neg e, if_neg e, Nat.mul_zero, Nat.mul_zero]
theorem tot_a {s : SG} (h0 : 0 < sn s) : ∀ i, i < sn s → sumTo (fun j => Fw s 0 j * BkT s 0 j) (sz s 0) = sumTo (fun k => Fw s i k * BkT s i k) (sz s i)
  | 0, _ => rfl
  | i + 1, h => (tot_a h0 i (by omega)).trans (tot_s h)
theorem tot {s : SG} (h0 : 0 < sn s) : cap (sumTo (WT s 0) (sz s 0)) = cap (sumTo (Rw s (sn s - 1)) (sz s (sn s - 1))) := by
  have a : cap (sumTo (WT s 0) (sz s 0)) = cap (sumTo (fun j => Fw s 0 j * BkT s 0 j) (sz s 0)) := by
    refine cap_sum (fun k _ => ?_)
    unfold WT
    have r : Rw s 0 k = if okS s k then 1 else 0 := rfl
    have f : Fw s 0 k = if okS s k then 1 else 0 := rfl
    rw [r, f]
    cases okS s k
    · rw [if_neg (by decide)]; simp
    · rw [if_pos (by decide), cap_cap]; simp
  rw [a, tot_a h0 (sn s - 1) (by omega)]
  refine cap_sum (fun k _ => ?_)
  rw [BkT_l (by omega), Nat.mul_one, Rw_cap, cap_cap]
theorem anyTo_ex {p : Nat → Bool} : ∀ {n : Nat}, anyTo p n = true → ∃ k, k < n ∧ p k = true
  | 0, h => by cases h
  | n + 1, h => by
    rw [anyTo_s, Bool.or_eq_true] at h
    rcases h with h | h
    · obtain ⟨k, hk, q⟩ := anyTo_ex h
      exact ⟨k, by omega, q⟩
    · exact ⟨n, by omega, h⟩
theorem anyTo_of {p : Nat → Bool} : ∀ {n k : Nat}, k < n → p k = true → anyTo p n = true
  | n + 1, k, hk, h => by
    rw [anyTo_s]
    by_cases e : k = n
    · subst e; rw [h, Bool.or_true]
    · rw [anyTo_of (p := p) (n := n) (k := k) (by omega) h]; rfl
theorem some1_0 {s : SG} {i k : Nat} (h : some1 s i = false) (hk : k < sz s i) : Rw s i k = 0 := by
  by_cases e : 0 < Rw s i k
  · have := anyTo_of (p := fun k => decide (0 < Rw s i k)) hk (by simpa using e)
    unfold some1 at h
    rw [h] at this; cases this
  · omega
theorem fail_0 {s : SG} : ∀ m, 0 ≤ failT s (m + 1) → ∀ k, k < sz s m → Rw s m k = 0 := by
  intro m
  induction m with
  | zero =>
    intro h k hk
    rw [failT_s] at h
    have : failT s 0 = -1 := rfl
    rw [this, if_pos (by decide)] at h
    cases e : some1 s 0
    · exact some1_0 e hk
    · rw [e] at h; simp at h
  | succ m ih =>
    intro h k hk
    rw [failT_s] at h
    by_cases c : failT s (m + 1) < 0
    · rw [if_pos c] at h
      cases e : some1 s (m + 1)
      · exact some1_0 e hk
      · rw [e] at h; simp at h
    · have z := ih (by omega)
      by_cases e : 0 < Rw s (m + 1) k
      · obtain ⟨j, hj, q, _⟩ := Rw_from e
        have := z j hj
        omega
      · omega
theorem fail_many {s : SG} (h0 : 0 < sn s) (h : 0 ≤ failT s (sn s)) : cap (sumTo (Rw s (sn s - 1)) (sz s (sn s - 1))) = 0 := by
  rw [sumTo_0 (fun k hk => fail_0 (sn s - 1) (by rw [show sn s - 1 + 1 = sn s by omega]; exact h) k hk)]
  rfl
theorem fail_stay {s : SG} {m : Nat} (h : 0 ≤ failT s m) : ∀ d, failT s (m + d) = failT s m
  | 0 => rfl
  | d + 1 => by
    have I := fail_stay h d
    rw [show m + (d + 1) = (m + d) + 1 by omega, failT_s, I, if_neg (by omega)]
theorem bst_s (f : Nat → Nat) (n : Nat) : bst f (n + 1) = if f n < (bst f n).1 then (f n, n) else bst f n := rfl
theorem bst_at {f : Nat → Nat} : ∀ {n k : Nat}, k < n → (bst f n).1 ≤ f k
  | n + 1, k, hk => by
    rw [bst_s]
    by_cases e : k = n
    · subst e
      split
      · exact Nat.le_refl _
      · omega
    · have := bst_at (f := f) (n := n) (k := k) (by omega)
      split
      · show f n ≤ f k; omega
      · exact this
theorem bst_of {f : Nat → Nat} : ∀ {n : Nat}, (bst f n).1 < FARN → (bst f n).2 < n ∧ f (bst f n).2 = (bst f n).1
  | 0, h => absurd h (Nat.lt_irrefl _)
  | n + 1, h => by
    rw [bst_s] at h ⊢
    by_cases e : f n < (bst f n).1
    · rw [if_pos e]; exact ⟨Nat.lt_succ_self n, rfl⟩
    · rw [if_neg e] at h ⊢
      have := bst_of (f := f) (n := n) h
      exact ⟨by omega, this.2⟩
theorem good {s : SG} (hw : WF s) (hf : failT s (sn s) < 0) : ∀ d i, i + d + 1 = sn s → ∃ k, k < sz s i ∧ 0 < Rw s i k ∧ RsT s i k < FARN := by
  intro d
  induction d with
  | zero =>
    intro i hi
    obtain ⟨k, hk, q⟩ := anyTo_ex (failT_neg hf i (by omega))
    refine ⟨k, hk, by simpa using q, ?_⟩
    rw [RsT_l (by omega)]; decide
  | succ d ih =>
    intro i hi
    obtain ⟨k, hk, q1, q2⟩ := ih (i + 1) (by omega)
    obtain ⟨j, hj, q3, q4⟩ := Rw_from q1
    refine ⟨j, hj, q3, (rb2 hw (by omega) hj).1.mpr ?_⟩
    rw [BkT_s (by omega)]
    exact sumTo_pos hk (by rw [if_pos q4]; exact (rb2 hw (by omega) hk).1.mp q2)
def Gd (s : SG) (i : Nat) : Prop := ch s i < sz s i ∧ 0 < Rw s i (ch s i) ∧ RsT s i (ch s i) < FARN
theorem ch_s (s : SG) (i : Nat) : ch s (i + 1) = (bst (bM s (i + 1) (vv s i (ch s i))) (sz s (i + 1))).2 := rfl
theorem okS_w (s : SG) (k : Nat) : 0 < Rw s 0 k ↔ okS s k = true := by
  have r : Rw s 0 k = if okS s k then 1 else 0 := rfl
  rw [r]
  cases okS s k <;> simp
theorem b0_w {s : SG} (hw : WF s) (h0 : 0 < sn s) {k : Nat} (hk : k < sz s 0) : (WT s 0 k = 0 → b0 s k = FARN) ∧ (¬ WT s 0 k = 0 → b0 s k = csH s (vv s 0 k) + RsT s 0 k ∧ RsT s 0 k ≤ 4191 ∧ csH s (vv s 0 k) ≤ 381) := by
  have r := rb2 hw h0 hk
  have w := WT_0 s 0 k
  rw [okS_w] at w
  unfold b0
  refine ⟨fun e => ?_, fun e => ?_⟩
  · rw [if_neg (fun z => w.mpr ⟨z.2, r.1.mp z.1⟩ e)]
  · have z := w.mp e
    have y := r.1.mpr z.2
    rw [if_pos ⟨y, z.1⟩]
    exact ⟨rfl, r.2 y, csH_le hw (vv_rg hw h0 hk)⟩
theorem bM_w {s : SG} (hw : WF s) {i j : Nat} (hi : i + 1 < sn s) (hj : j < sz s i) (h : 0 < Rw s i j) {k : Nat} (hk : k < sz s (i + 1)) : (wtF s i j k = 0 → bM s (i + 1) (vv s i j) k = FARN) ∧ (¬ wtF s i j k = 0 → bM s (i + 1) (vv s i j) k = csM (vv s (i + 1) k) (vv s i j) + RsT s (i + 1) k) := by
  have e : bM s (i + 1) (vv s i j) k = rsF s i j k := by
    unfold bM rsF okM
    rw [show i + 1 - 1 = i from rfl]
    by_cases q : RsT s (i + 1) k < FARN ∧ pairR s (i + 1) (vv s (i + 1) k) (vv s i j) = 0
    · rw [if_pos q, if_pos ⟨q.1, by simpa using q.2⟩]
    · rw [if_neg q, if_neg (fun z => q ⟨z.1, by simpa using z.2⟩)]
  have R := rs_wt hw hi hj h hk
  rw [e]
  exact ⟨R.1, fun z => (R.2 z).2.2.1⟩
theorem Gd_0 {s : SG} (hw : WF s) (h0 : 0 < sn s) (hf : failT s (sn s) < 0) : (bst (b0 s) (sz s 0)).1 < FARN ∧ Gd s 0 := by
  obtain ⟨k, hk, q1, q2⟩ := good hw hf (sn s - 1) 0 (by omega)
  have bk : b0 s k < FARN := by
    have r := rb2 hw h0 hk
    have := b0_w hw h0 hk
    have z := this.2 ((WT_0 s 0 k).mpr ⟨q1, r.1.mp q2⟩)
    unfold FARN; omega
  have lt : (bst (b0 s) (sz s 0)).1 < FARN := Nat.lt_of_le_of_lt (bst_at hk) bk
  have B := bst_of lt
  refine ⟨lt, B.1, ?_, ?_⟩
  · rw [okS_w]
    have := B.2
    unfold b0 at this
    show okS s (bst (b0 s) (sz s 0)).2 = true
    by_cases e : okS s (bst (b0 s) (sz s 0)).2 = true
    · exact e
    · have c : b0 s (bst (b0 s) (sz s 0)).2 = FARN := by
        unfold b0; rw [if_neg (fun z => e z.2)]
      rw [B.2] at c; omega
  · by_cases e : RsT s 0 (bst (b0 s) (sz s 0)).2 < FARN
    · exact e
    · have c : b0 s (bst (b0 s) (sz s 0)).2 = FARN := by
        unfold b0; rw [if_neg (fun z => e z.1)]
      rw [B.2] at c; omega
theorem Gd_s {s : SG} (hw : WF s) {i : Nat} (hi : i + 1 < sn s) (h : Gd s i) : (bst (bM s (i + 1) (vv s i (ch s i))) (sz s (i + 1))).1 < FARN ∧ Gd s (i + 1) := by
  have B := h.2.2
  rw [RsT_s hi] at B
  obtain ⟨k, hk, q⟩ := minTo_ex B
  have R := rs_wt hw hi h.1 h.2.1 hk
  have M := bM_w hw hi h.1 h.2.1 hk
  have nz : ¬ wtF s i (ch s i) k = 0 := fun z => by have := R.1 z; omega
  have bk : bM s (i + 1) (vv s i (ch s i)) k < FARN := by
    rw [M.2 nz]
    have := (R.2 nz).2.2
    unfold FARN; omega
  have lt : (bst (bM s (i + 1) (vv s i (ch s i))) (sz s (i + 1))).1 < FARN := Nat.lt_of_le_of_lt (bst_at hk) bk
  have C := bst_of lt
  rw [← ch_s] at C
  have R2 := rs_wt hw hi h.1 h.2.1 C.1
  have M2 := bM_w hw hi h.1 h.2.1 C.1
  have nz2 : ¬ wtF s i (ch s i) (ch s (i + 1)) = 0 := fun z => by have := M2.1 z; omega
  have w := R2.2 nz2
  exact ⟨lt, C.1, Rw_go h.1 h.2.1 w.1, by unfold FARN; omega⟩
theorem Gd_a {s : SG} (hw : WF s) (h0 : 0 < sn s) (hf : failT s (sn s) < 0) : ∀ i, i < sn s → Gd s i
  | 0, _ => (Gd_0 hw h0 hf).2
  | i + 1, h => (Gd_s hw h (Gd_a hw h0 hf i (by omega))).2
