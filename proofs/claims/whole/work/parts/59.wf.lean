theorem isW_c {s t : SG} {i j : Nat} (h : ∀ f, std s i f = std t j f) (f : Nat) : isW s i f = isW t j f := by
  have e : ∀ f, tl s i f = tl t j f := fun f => by unfold tl; rw [h]
  unfold isW
  rw [e f, e 2, e 3, e 4, e 5, e 6, e 7, e 9]
theorem cntW_c {s t : SG} {i j : Nat} (h : ∀ f, std s i f = std t j f) : ∀ k, cntW s i k = cntW t j k
  | 0 => rfl
  | k + 1 => by unfold cntW; rw [isW_c h, cntW_c h k]
theorem cntW_0 {s : SG} {i : Nat} (h : ∀ f, std s i f = 0) : cntW s i 8 = 2 := by
  have e : ∀ f, tl s i f = false := fun f => by unfold tl; rw [h]; rfl
  simp [cntW, isW, e]
theorem wf_key {s : SG} (hw : WF s) (x : Int32) : WF (o_key s x).2 := by
  unfold o_key
  by_cases e : inI x (-7) 7 = true
  · rw [if_pos e]
    unfold inI at e
    simp only [decide_eq_true_eq] at e
    refine ⟨e, hw.2.1, hw.2.2.1, hw.2.2.2.1, ?_, hw.2.2.2.2.2⟩
    intro i hi
    have h := hw.2.2.2.2.1 i hi
    exact ⟨h.1, h.2.1, h.2.2.1, Nat.le_trans (Nat.le_of_eq (cntW_c (t := s) (j := i) (fun _ => rfl) 8)) h.2.2.2⟩
  · rw [if_neg e]; exact hw
theorem wf_less {s : SG} (hw : WF s) : WF (o_less s).2 := by
  unfold o_less
  by_cases e : sn s = 0
  · rw [if_pos e]; exact hw
  · rw [if_neg e]
    have h12 := hw.n
    refine ⟨hw.1, show sn s - 1 ≤ 12 by omega, hw.2.2.1, fun i hi => hw.2.2.2.1 i (show i < sn s by have : i < sn s - 1 := hi; omega), fun i hi => ?_, hw.2.2.2.2.2.1, fun i hi => hw.2.2.2.2.2.2.1 i (show i < sn s by have : i < sn s - 1 := hi; omega), fun i hi => hw.2.2.2.2.2.2.2 i (show i < sn s by have : i < sn s - 1 := hi; omega)⟩
    have h := hw.2.2.2.2.1 i (show i < sn s by have : i < sn s - 1 := hi; omega)
    exact ⟨h.1, h.2.1, h.2.2.1, Nat.le_trans (Nat.le_of_eq (cntW_c (t := s) (j := i) (fun _ => rfl) 8)) h.2.2.2⟩
theorem wf_range {s : SG} (hw : WF s) (v a b : Int32) : WF (o_range s v a b).2 := by
  unfold o_range
  split
  · rename_i e
    simp only [Bool.and_eq_true, decide_eq_true_eq] at e
    obtain ⟨⟨⟨e1, e2⟩, e3⟩, e4⟩ := e
    have hA := inI_ix (b := 127) (by decide) e2
    have hB := inI_ix (b := 127) (by decide) e3
    have hta : a.toInt = ix a := (congrArg Int32.toInt hA.1).trans (nI_t (by omega))
    have htb : b.toInt = ix b := (congrArg Int32.toInt hB.1).trans (nI_t (by omega))
    refine ⟨hw.1, hw.2.1, hw.2.2.1, hw.2.2.2.1, fun i hi => ?_, fun w hw2 => ?_, hw.2.2.2.2.2.2⟩
    · have h := hw.2.2.2.2.1 i hi
      exact ⟨h.1, h.2.1, h.2.2.1, Nat.le_trans (Nat.le_of_eq (cntW_c (t := s) (j := i) (fun _ => rfl) 8)) h.2.2.2⟩
    · have h := hw.2.2.2.2.2.1 w hw2
      show va_up (slo s) (ix v) (ix a) w ≤ va_up (shi s) (ix v) (ix b) w ∧ va_up (shi s) (ix v) (ix b) w ≤ 127 ∧ va_up (shi s) (ix v) (ix b) w ≤ va_up (slo s) (ix v) (ix a) w + 24 ∧ sho s w ≤ 127
      by_cases q : w = ix v
      · subst q; rw [va_up_self, va_up_self]; exact ⟨by omega, by omega, by omega, h.2.2.2⟩
      · rw [va_up_ne _ _ q, va_up_ne _ _ q]; exact h
  · exact hw
theorem wf_home {s : SG} (hw : WF s) (v p : Int32) : WF (o_home s v p).2 := by
  unfold o_home
  split
  · rename_i e
    simp only [Bool.and_eq_true] at e
    have hB := inI_ix (b := 127) (by decide) e.2
    refine ⟨hw.1, hw.2.1, hw.2.2.1, hw.2.2.2.1, fun i hi => ?_, fun w hw2 => ?_, hw.2.2.2.2.2.2⟩
    · have h := hw.2.2.2.2.1 i hi
      exact ⟨h.1, h.2.1, h.2.2.1, Nat.le_trans (Nat.le_of_eq (cntW_c (t := s) (j := i) (fun _ => rfl) 8)) h.2.2.2⟩
    · have h := hw.2.2.2.2.2.1 w hw2
      show slo s w ≤ shi s w ∧ shi s w ≤ 127 ∧ shi s w ≤ slo s w + 24 ∧ va_up (sho s) (ix v) (ix p) w ≤ 127
      by_cases q : w = ix v
      · subst q; rw [va_up_self]; exact ⟨h.1, h.2.1, h.2.2.1, hB.2⟩
      · rw [va_up_ne _ _ q]; exact h
  · exact hw
theorem wf_leap {s : SG} (hw : WF s) (n : Int32) : WF (o_leap s n).2 := by
  unfold o_leap
  split
  · rename_i e
    have hB := inI_ix (b := 24) (by decide) e
    refine ⟨hw.1, hw.2.1, hB.2, hw.2.2.2.1, fun i hi => ?_, hw.2.2.2.2.2⟩
    have h := hw.2.2.2.2.1 i hi
    exact ⟨h.1, h.2.1, h.2.2.1, Nat.le_trans (Nat.le_of_eq (cntW_c (t := s) (j := i) (fun _ => rfl) 8)) h.2.2.2⟩
  · exact hw
theorem wf_given {s : SG} (hw : WF s) (i v p : Int32) : WF (o_given s i v p).2 := by
  unfold o_given
  split
  · rename_i e
    simp only [Bool.and_eq_true] at e
    have e3 := e.2
    unfold inI at e3
    simp only [decide_eq_true_eq] at e3
    refine ⟨hw.1, hw.2.1, hw.2.2.1, hw.2.2.2.1, fun i hi => ?_, hw.2.2.2.2.2.1, fun q hq w hw2 => ?_, hw.2.2.2.2.2.2.2⟩
    · have h := hw.2.2.2.2.1 i hi
      exact ⟨h.1, h.2.1, h.2.2.1, Nat.le_trans (Nat.le_of_eq (cntW_c (t := s) (j := i) (fun _ => rfl) 8)) h.2.2.2⟩
    · have h := hw.2.2.2.2.2.2.1 q hq w hw2
      show -1 ≤ va_up (sgv s) (ix i) (va_up (sgv s (ix i)) (ix v) p.toInt) q w ∧ va_up (sgv s) (ix i) (va_up (sgv s (ix i)) (ix v) p.toInt) q w ≤ 127
      by_cases c : q = ix i
      · subst c
        rw [va_up_self]
        by_cases d : w = ix v
        · subst d; rw [va_up_self]; exact e3
        · rw [va_up_ne _ _ d]; exact h
      · rw [va_up_ne _ _ c]; exact h
  · exact hw
theorem wf_sing {s : SG} (hw : WF s) (i a b c : Int32) : WF (o_sing s i a b c).2 := by
  unfold o_sing
  split
  · rename_i e
    simp only [Bool.and_eq_true] at e
    have hA := inI_ix (b := 127) (by decide) e.1.1.2
    have hB := inI_ix (b := 127) (by decide) e.1.2
    have hC := inI_ix (b := 127) (by decide) e.2
    refine ⟨hw.1, hw.2.1, hw.2.2.1, hw.2.2.2.1, fun i hi => ?_, hw.2.2.2.2.2.1, hw.2.2.2.2.2.2.1, fun q hq x y z g => ?_⟩
    · have h := hw.2.2.2.2.1 i hi
      exact ⟨h.1, h.2.1, h.2.2.1, Nat.le_trans (Nat.le_of_eq (cntW_c (t := s) (j := i) (fun _ => rfl) 8)) h.2.2.2⟩
    · have g : va_up (ssg s) (ix i) (some (ix a, ix b, ix c)) q = some (x, y, z) := g
      by_cases d : q = ix i
      · subst d
        rw [va_up_self] at g
        simp only [Option.some.injEq, Prod.mk.injEq] at g
        obtain ⟨rfl, rfl, rfl⟩ := g
        exact ⟨hA.2, hB.2, hC.2⟩
      · rw [va_up_ne _ _ d] at g
        exact hw.2.2.2.2.2.2.2 q hq x y z g
  · exact hw
theorem wf_td {s : SG} (hw : WF s) {i f g : Nat} (hi : i < sn s) (h2 : 2 ≤ f) (hg : g ≤ 4) (hc : cntW (setTd s i f g) i 8 ≤ 3) : WF (setTd s i f g) := by
  refine ⟨hw.1, hw.2.1, hw.2.2.1, hw.2.2.2.1, fun q hq => ?_, hw.2.2.2.2.2⟩
  have h := hw.2.2.2.2.1 q hq
  by_cases c : q = i
  · subst c
    have e : ∀ w, std (setTd s q f g) q w = va_up (std s q) f g w := fun w => by
      show va_up (std s) q (va_up (std s q) f g) q w = _
      rw [va_up_self]
    refine ⟨fun w => ?_, ?_, ?_, hc⟩
    · rw [e]
      by_cases d : w = f
      · subst d; rw [va_up_self]; exact hg
      · rw [va_up_ne _ _ d]; exact h.1 w
    · rw [e, va_up_ne _ _ (by omega)]; exact h.2.1
    · rw [e, va_up_ne _ _ (by omega)]; exact h.2.2.1
  · have e : ∀ w, std (setTd s i f g) q w = std s q w := fun w => by
      show va_up (std s) i (va_up (std s i) f g) q w = _
      rw [va_up_ne _ _ c]
    exact ⟨fun w => by rw [e]; exact h.1 w, by rw [e]; exact h.2.1, by rw [e]; exact h.2.2.1, by rw [cntW_c e]; exact h.2.2.2⟩
theorem wf_figure {s : SG} (hw : WF s) (i f g : Int32) : WF (o_figure s i f g).2 := by
  unfold o_figure
  split
  · rename_i e
    simp only [Bool.and_eq_true] at e
    have hi := hasC_ix hw e.1.1
    have e2 := e.1.2
    have hf := inI_ix (x := f) (b := 9) (by decide) (by simp [inI] at e2 ⊢; omega)
    have hg := inI_ix (b := 3) (by decide) e.2
    have h2 : 2 ≤ ix f := by
      unfold inI at e2
      simp only [decide_eq_true_eq] at e2
      have := e2.1
      rw [hf.1, nI_t (by omega)] at this
      have q : ix (nI (ix f)) = ix f := by rw [← hf.1]
      omega
    split
    · rename_i c
      exact wf_td hw hi.2 h2 (by omega) c
    · exact hw
  · exact hw
theorem wf_plain {s : SG} (hw : WF s) (i : Int32) : WF (o_plain s i).2 := by
  unfold o_plain
  split
  · refine ⟨hw.1, hw.2.1, hw.2.2.1, hw.2.2.2.1, fun q hq => ?_, hw.2.2.2.2.2⟩
    have h := hw.2.2.2.2.1 q hq
    by_cases c : q = ix i
    · have e : ∀ w, std (mkS (sF s) (sn s) (sp s) (slt s) (soc s) (sal s) (va_up (std s) (ix i) (fun _ => 0)) (slo s) (shi s) (sho s) (sgv s) (ssg s)) q w = 0 := fun w => by
        show va_up (std s) (ix i) (fun _ => 0) q w = _
        rw [c, va_up_self]
      exact ⟨fun w => by rw [e]; omega, e 0, e 1, by rw [cntW_0 e]; omega⟩
    · have e : ∀ w, std (mkS (sF s) (sn s) (sp s) (slt s) (soc s) (sal s) (va_up (std s) (ix i) (fun _ => 0)) (slo s) (shi s) (sho s) (sgv s) (ssg s)) q w = std s q w := fun w => by
        show va_up (std s) (ix i) (fun _ => 0) q w = _
        rw [va_up_ne _ _ c]
      exact ⟨fun w => by rw [e]; exact h.1 w, by rw [e]; exact h.2.1, by rw [e]; exact h.2.2.1, by rw [cntW_c e]; exact h.2.2.2⟩
  · exact hw
theorem wf_chord {s : SG} (hw : WF s) (a b c : Int32) : WF (o_chord s a b c).2 := by
  unfold o_chord
  split
  · rename_i e
    simp only [Bool.and_eq_true] at e
    have h12 := hw.n
    split
    · exact hw
    · rename_i n12
      have hA := inI_ix (b := 6) (by decide) e.1.1
      have e2 := e.1.2
      have hB := inI_ix (x := b) (b := 5) (by decide) (by simp [inI] at e2 ⊢; omega)
      have hb1 : 1 ≤ ix b := by
        unfold inI at e2
        simp only [decide_eq_true_eq] at e2
        have := e2.1
        rw [hB.1, nI_t (by omega)] at this
        have q : ix (nI (ix b)) = ix b := by rw [← hB.1]
        omega
      have e3 := e.2
      unfold inI at e3
      simp only [decide_eq_true_eq] at e3
      refine ⟨hw.1, show sn s + 1 ≤ 12 by omega, hw.2.2.1, fun q hq => ?_, fun q hq => ?_, hw.2.2.2.2.2.1, fun q hq v hv => ?_, fun q hq x y z g => ?_⟩
      · show va_up (slt s) (sn s) (ix a) q ≤ 6 ∧ 1 ≤ va_up (soc s) (sn s) (ix b) q ∧ va_up (soc s) (sn s) (ix b) q ≤ 5 ∧ -1 ≤ va_up (sal s) (sn s) c.toInt q ∧ va_up (sal s) (sn s) c.toInt q ≤ 1
        by_cases d : q = sn s
        · rw [d, va_up_self, va_up_self, va_up_self]; exact ⟨hA.2, hb1, hB.2, e3⟩
        · have hq2 : q < sn s + 1 := hq
          rw [va_up_ne _ _ d, va_up_ne _ _ d, va_up_ne _ _ d]; exact hw.2.2.2.1 q (by omega)
      · by_cases d : q = sn s
        · have e : ∀ w, std (mkS (sF s) (sn s + 1) (sp s) (va_up (slt s) (sn s) (ix a)) (va_up (soc s) (sn s) (ix b)) (va_up (sal s) (sn s) c.toInt) (va_up (std s) (sn s) (fun _ => 0)) (slo s) (shi s) (sho s) (va_up (sgv s) (sn s) (fun _ => -1)) (va_up (ssg s) (sn s) none)) q w = 0 := fun w => by
            show va_up (std s) (sn s) (fun _ => 0) q w = _
            rw [d, va_up_self]
          exact ⟨fun w => by rw [e]; omega, e 0, e 1, by rw [cntW_0 e]; omega⟩
        · have e : ∀ w, std (mkS (sF s) (sn s + 1) (sp s) (va_up (slt s) (sn s) (ix a)) (va_up (soc s) (sn s) (ix b)) (va_up (sal s) (sn s) c.toInt) (va_up (std s) (sn s) (fun _ => 0)) (slo s) (shi s) (sho s) (va_up (sgv s) (sn s) (fun _ => -1)) (va_up (ssg s) (sn s) none)) q w = std s q w := fun w => by
            show va_up (std s) (sn s) (fun _ => 0) q w = _
            rw [va_up_ne _ _ d]
          have hq2 : q < sn s + 1 := hq
          have h := hw.2.2.2.2.1 q (by omega)
          exact ⟨fun w => by rw [e]; exact h.1 w, by rw [e]; exact h.2.1, by rw [e]; exact h.2.2.1, by rw [cntW_c e]; exact h.2.2.2⟩
      · show -1 ≤ va_up (sgv s) (sn s) (fun _ => -1) q v ∧ va_up (sgv s) (sn s) (fun _ => -1) q v ≤ 127
        by_cases d : q = sn s
        · rw [d, va_up_self]; omega
        · have hq2 : q < sn s + 1 := hq
          rw [va_up_ne _ _ d]; exact hw.2.2.2.2.2.2.1 q (by omega) v hv
      · have g : va_up (ssg s) (sn s) none q = some (x, y, z) := g
        by_cases d : q = sn s
        · rw [d, va_up_self] at g; cases g
        · have hq2 : q < sn s + 1 := hq
          rw [va_up_ne _ _ d] at g; exact hw.2.2.2.2.2.2.2 q (by omega) x y z g
  · exact hw
