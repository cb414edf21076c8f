/-! the ring holds 0 and 1 -/
def R01 (ν : zM) : Prop := ∀ i, i < 2000 → ν 28 i = 0 ∨ ν 28 i = 1
theorem R01.eq {ν ν' : zM} (h : R01 ν) (e : ν' 28 = ν 28) : R01 ν' := by
  unfold R01
  rw [e]; exact h
theorem H_gr {ν : zM} {t : Nat} : (g_gr ν t) 28 = ν 28 := by
  unfold g_gr
  split <;> rfl
theorem H_grey {ν : zM} {x : Int32} : (g_grey ν x) 28 = ν 28 := by
  unfold g_grey
  split
  · rfl
  · exact H_gr
theorem H_before {ν : zM} {x : Int32} : (g_before ν x) 28 = ν 28 := by
  unfold g_before
  split
  · exact H_grey
  · rfl
theorem H_end {ν : zM} {pg : Nat} : (g_end ν pg) 28 = ν 28 := by
  unfold g_end
  split <;> rfl
theorem H_roots {ν : zM} {r : Nat} : (g_roots ν r) 28 = ν 28 := by
  have h := H_grey (ν := ν) (x := ν 26 r)
  unfold g_roots
  split
  · exact h
  · exact h
theorem H_look {ν : zM} {a h : Nat} : (g_look ν a h) 28 = ν 28 := by
  unfold g_look
  split
  · rfl
  · split
    · rfl
    · exact H_gr
theorem H_mark {ν : zM} : (g_mark ν) 28 = ν 28 := by
  unfold g_mark
  split
  · exact H_look
  · unfold g_mk
    split <;> rfl
theorem H_sw1 {ν : zM} {b sz : Nat} : (g_sw1 ν b sz) 28 = ν 28 := by
  unfold g_sw1
  split
  · rfl
  · split <;> rfl
theorem H_sweep {ν : zM} {b sz : Nat} : (g_sweep ν b sz) 28 = ν 28 := by
  have h := H_sw1 (ν := ν) (b := b) (sz := sz)
  unfold g_sweep g_sw3
  split
  · exact h
  · exact h
theorem R01.up {ν : zM} (h : R01 ν) {ν' : zM} {i : Nat} {b : Int32} (hb : b = 0 ∨ b = 1) (e : ν' 28 = upd (ν 28) i b) : R01 ν' := by
  intro j hj
  rw [e]
  by_cases q : j = i
  · rw [q, up_s]; exact hb
  · rw [up_n q]; exact h j hj
theorem R01_step {ν : zM} {pg : Nat} (h : R01 ν) : R01 (g_step ν pg) := by
  have ht : R01 (g_tick ν 0) := by
    rw [tick0]
    exact h.up (Or.inl rfl) rfl
  unfold g_step
  split
  · exact ht.eq H_roots
  · split
    · exact ht.eq (H_end.trans H_mark)
    · exact ht.eq (H_end.trans H_sweep)
theorem R01_steps {ν : zM} {pg : Nat} (h : R01 ν) : ∀ j, R01 (g_steps ν pg j)
  | 0 => h
  | j + 1 => by
    show R01 (if (g_steps ν pg j) 19 13 = 0 then g_steps ν pg j else g_step (g_steps ν pg j) pg)
    split
    · exact R01_steps h j
    · exact R01_step (R01_steps h j)
theorem R01_rounds {pg : Nat} : ∀ (m : Nat) (ν : zM), R01 ν → R01 (g_rounds pg m ν)
  | 0, ν, h => h
  | m + 1, ν, h => by
    unfold g_rounds
    split
    · exact h
    · exact R01_rounds m _ ((R01_steps h _).eq rfl)
theorem R01_rg {f : Nat → Int32} {s : Nat} (h : ∀ i, i < 2000 → f i = 0 ∨ f i = 1) : ∀ k i, i < 2000 → rg f s k i = 0 ∨ rg f s k i = 1
  | 0, i, hi => h i hi
  | k + 1, i, hi => by
    show upd (rg f s k) ((s + k) % 2000) 1 i = 0 ∨ upd (rg f s k) ((s + k) % 2000) 1 i = 1
    by_cases q : i = (s + k) % 2000
    · rw [← q, up_s]; exact Or.inr rfl
    · rw [up_n q]; exact R01_rg h k i hi
theorem R01_did {ν : zM} {pg t : Nat} (h : R01 ν) : R01 (g_did ν pg t) := by
  have hp : R01 (g_pay ν t) := by
    have ht : R01 (g_ticks ν t) := fun i hi => R01_rg h t i hi
    unfold g_pay
    split
    · exact ht
    · exact ht.eq rfl
  have hr := R01_rounds (pg := pg) t _ hp
  unfold g_did g_after
  split
  · exact hr.eq rfl
  · exact hr
