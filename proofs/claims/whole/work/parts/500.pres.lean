/-! the invariant is kept: greying -/
theorem pigeon : ∀ (m n : Nat) (f : Nat → Nat), (∀ i, i < n → f i < m) → (∀ i j, i < n → j < n → f i = f j → i = j) → n ≤ m
  | 0, n, f, h1, _ => by
    rcases Nat.eq_zero_or_pos n with h | h
    · omega
    · have := h1 0 h
      omega
  | m + 1, n, f, h1, h2 => by
    by_cases e : ∃ k, k < n ∧ f k = m
    · obtain ⟨k, hk, ek⟩ := e
      have := pigeon m (n - 1) (fun i => if i < k then f i else f (i + 1)) (fun i hi => by
        show (if i < k then f i else f (i + 1)) < m
        split
        · have a := h1 i (by omega)
          have b : f i ≠ m := fun q => by have := h2 i k (by omega) hk (q.trans ek.symm); omega
          omega
        · have a := h1 (i + 1) (by omega)
          have b : f (i + 1) ≠ m := fun q => by have := h2 (i + 1) k (by omega) hk (q.trans ek.symm); omega
          omega) (fun i j hi hj q => by
        have q : (if i < k then f i else f (i + 1)) = (if j < k then f j else f (j + 1)) := q
        split at q <;> split at q
        · exact h2 i j (by omega) (by omega) q
        · have := h2 i (j + 1) (by omega) (by omega) q; omega
        · have := h2 (i + 1) j (by omega) (by omega) q; omega
        · have := h2 (i + 1) (j + 1) (by omega) (by omega) q; omega)
      omega
    · have := pigeon m n f (fun i hi => by
        have a := h1 i hi
        have b : f i ≠ m := fun q => e ⟨i, hi, q⟩
        omega) h2
      omega
def JJ (ν : zM) (pg : Nat) (S T : Nat → Prop) (e : Nat) : Prop := IB ν pg ∧ IQ ν pg ∧ IP ν ∧ IS ν pg ∧ IG ν S ∧ IT ν S T e
theorem IP.pb {ν : zM} {pg : Nat} (hI : IB ν pg) (h : IP ν) : ∃ n : Nat, ν 19 12 = nI n ∧ PB ν n ∧ nN (ν 19 12) = n ∧ (0 < n → ∃ b : Nat, ν 27 (n - 1) = nI b ∧ b < 4096) := by
  obtain ⟨n', e, hle, h1, h2, -⟩ := h
  have key : ∀ i, i < n' → ∃ a, ν 27 i = nI a ∧ a < 4096 ∧ a % 4 = 0 ∧ ν 23 a = 1 := fun i hi => by
    obtain ⟨a, q1, q2, q3⟩ := h1 i hi
    exact ⟨a, q1, q2.1, (I3.al hI.1 hI.2.1 hI.2.2.1 q2.1 q2.nz).1, q3⟩
  have cap : ∀ i, i < n' → nN (ν 27 i) < 4096 ∧ nN (ν 27 i) % 4 = 0 ∧ ν 27 i = nI (nN (ν 27 i)) ∧ ν 23 (nN (ν 27 i)) = 1 := fun i hi => by
    obtain ⟨a, q1, q2, q3, q4⟩ := key i hi
    have : nN (ν 27 i) = a := by rw [q1]; exact nN_n (by omega)
    rw [this]
    exact ⟨q2, q3, q1, q4⟩
  have strict : ∀ t, ob ν t → ν 23 t = 0 → n' < 1024 := by
    intro t ht hm
    have ht4 := (I3.al hI.1 hI.2.1 hI.2.2.1 ht.1 ht.nz).1
    have ht1 := ht.1
    have := pigeon 1024 (n' + 1) (fun i => if i < n' then nN (ν 27 i) / 4 else t / 4) (fun i hi => by
      show (if i < n' then nN (ν 27 i) / 4 else t / 4) < 1024
      split
      · have := cap i (by omega); omega
      · omega) (fun i j hi hj q => by
      have q : (if i < n' then nN (ν 27 i) / 4 else t / 4) = (if j < n' then nN (ν 27 j) / 4 else t / 4) := q
      have ne : ∀ k, k < n' → nN (ν 27 k) / 4 ≠ t / 4 := fun k hk w => by
        have c := cap k hk
        have : nN (ν 27 k) = t := by omega
        rw [this, hm] at c
        exact absurd c.2.2.2 (by decide)
      split at q <;> split at q
      · rename_i a b
        have ca := cap i a
        have cb := cap j b
        exact h2 i j a b (by rw [ca.2.2.1, cb.2.2.1]; congr 1; omega)
      · rename_i a b
        exact absurd q (ne i a)
      · rename_i a b
        exact absurd q.symm (ne j b)
      · omega)
    omega
  refine ⟨n', e, ⟨hle, strict⟩, by rw [e]; exact nN_n (by omega), fun hp => ?_⟩
  obtain ⟨a, q1, q2, -⟩ := key (n' - 1) (by omega)
  exact ⟨a, q1, q2⟩
/-- what is protected stays so, or is marked -/
theorem prot_step {ν ν' : zM} (h1 : ∀ t, t < 4096 → seed ν t → seed ν' t ∨ ν' 23 t = 1) (h2 : ∀ a u i, u < 4096 → ν 23 a = 0 → ob ν a → 1 ≤ i → i ≤ ptn ν a → ν 20 (a + i) = nI (u + 1) → (ν' 23 a = 0 ∧ ob ν' a ∧ i ≤ ptn ν' a ∧ ν' 20 (a + i) = nI (u + 1)) ∨ seed ν' u ∨ ν' 23 u = 1) (h3 : ∀ a, ν 23 a = 0 → ν' 23 a = 0 ∨ ν' 23 a = 1) (h4 : ∀ a u i, u < 4096 → ν' 23 a = 1 → ν 23 a = 0 → ob ν a → 1 ≤ i → i ≤ ptn ν a → ν 20 (a + i) = nI (u + 1) → seed ν' u ∨ ν' 23 u = 1) {x : Nat} (h : prot ν x) : ν' 23 x = 1 ∨ prot ν' x := by
  by_cases hx : ν' 23 x = 1
  · exact Or.inl hx
  · right
    intro Y y1 y2
    have := h (fun z => Y z ∨ ν' 23 z = 1) (fun t ht hs => (h1 t ht hs).elim (fun q => Or.inl (y1 t ht q)) Or.inr) (fun a i t ht ha w0 hob i1 i2 e => by
      rcases h3 a w0 with q | q
      · have hY : Y a := ha.elim id (fun z => by rw [q] at z; exact absurd z (by decide))
        rcases h2 a t i ht w0 hob i1 i2 e with ⟨z1, z2, z3, z4⟩ | z | z
        · exact Or.inl (y2 a i t ht hY z1 z2 i1 z3 z4)
        · exact Or.inl (y1 t ht z)
        · exact Or.inr z
      · exact (h4 a t i ht q w0 hob i1 i2 e).elim (fun z => Or.inl (y1 t ht z)) Or.inr)
    exact this.elim id (fun z => absurd z hx)
theorem upd_or {f : Nat → Int32} {t a : Nat} {x : Int32} : upd f t x a = x ∧ a = t ∨ upd f t x a = f a ∧ a ≠ t := by
  by_cases e : a = t
  · exact Or.inl ⟨by rw [e, up_s], e⟩
  · exact Or.inr ⟨up_n e, e⟩
theorem J_gr {ν : zM} {pg t e : Nat} {S T : Nat → Prop} (hJ : JJ ν pg S T e) (hp : ν 19 13 = 1 ∨ ν 19 13 = 2) (hS : S t) (ht : ob ν t) : JJ (g_gr ν t) pg S T e := by
  unfold g_gr
  by_cases hm : ν 23 t = 0
  · rw [if_pos hm]
    obtain ⟨hB, hQ, hP, hIS, hG, hT⟩ := hJ
    obtain ⟨n, hn, hpb, hnn, -⟩ := IP.pb hB hP
    have hlt := hpb.2 t ht hm
    have t1 := ht.1
    obtain ⟨i1, i2, i3, i4, i5, i6⟩ := hB
    rw [hnn]
    have hn' : (zp (zp (zp ν 23 t 1) 27 n (nI t)) 19 12 (ν 19 12 + 1)) 19 12 = nI (n + 1) := by show ν 19 12 + 1 = _; rw [hn, nI_1]
    refine ⟨⟨i1, i2, i3, fun a ha => ?_, i5, i6⟩, hQ, ?_, ?_, ?_, hT⟩
    · show upd (ν 23) t 1 a = 0 ∨ (upd (ν 23) t 1 a = 1 ∧ ν 22 a ≠ 0)
      rcases upd_or (f := ν 23) (t := t) (a := a) (x := 1) with ⟨q, rfl⟩ | ⟨q, -⟩
      · exact Or.inr ⟨q, ht.nz⟩
      · rw [q]; exact i4 a ha
    · obtain ⟨n2, e2, le2, p1, p2, p3⟩ := hP
      have : n2 = n := by
        have a1 : nN (ν 19 12) = n2 := by rw [e2]; exact nN_n (by omega)
        omega
      subst this
      refine ⟨n2 + 1, hn', by omega, fun i hi => ?_, fun i j hi hj q => ?_, fun q => ?_⟩
      · by_cases ei : i = n2
        · exact ⟨t, by show upd (ν 27) n2 (nI t) i = _; rw [ei, up_s], ht, by show upd (ν 23) t 1 t = 1; exact up_s⟩
        · obtain ⟨a, q1, q2, q3⟩ := p1 i (by omega)
          refine ⟨a, by show upd (ν 27) n2 (nI t) i = _; rw [up_n ei]; exact q1, q2, ?_⟩
          show upd (ν 23) t 1 a = 1
          rcases upd_or (f := ν 23) (t := t) (a := a) (x := 1) with ⟨q, -⟩ | ⟨q, -⟩
          · exact q
          · rw [q]; exact q3
      · have q : upd (ν 27) n2 (nI t) i = upd (ν 27) n2 (nI t) j := q
        have ne : ∀ k, k < n2 → ν 27 k ≠ nI t := fun k hk w => by
          obtain ⟨a, q1, q2, q3⟩ := p1 k hk
          rw [q1, nI_eq (by have := q2.1; omega) (by omega)] at w
          rw [w, hm] at q3
          exact absurd q3 (by decide)
        by_cases ei : i = n2
        · by_cases ej : j = n2
          · omega
          · rw [ei, up_s, up_n ej] at q; exact absurd q.symm (ne j (by omega))
        · by_cases ej : j = n2
          · rw [ej, up_s, up_n ei] at q; exact absurd q (ne i (by omega))
          · rw [up_n ei, up_n ej] at q; exact p2 i j (by omega) (by omega) q
      · have q : ν 19 13 = 0 ∨ ν 19 13 = 3 := q
        rcases hp with w | w <;> rw [w] at q <;> rcases q with q | q <;> exact absurd q (by decide)
    · rcases hIS with ⟨a1, -⟩ | h | ⟨a1, a2, a3⟩ | ⟨a1, -⟩
      · rcases hp with w | w <;> rw [w] at a1 <;> exact absurd a1 (by decide)
      · exact Or.inr (Or.inl h)
      · refine Or.inr (Or.inr (Or.inl ⟨a1, a2, a3.imp id ?_⟩))
        rintro ⟨a, h, q1, q2, q3, q4⟩
        refine ⟨a, h, q1, q2, ?_, q4⟩
        show upd (ν 23) t 1 a = 1
        rcases upd_or (f := ν 23) (t := t) (a := a) (x := 1) with ⟨q, -⟩ | ⟨q, -⟩
        · exact q
        · rw [q]; exact q3
      · rcases hp with w | w <;> rw [w] at a1 <;> exact absurd a1 (by decide)
    · obtain ⟨g1, g2, g3, g4, g5, g6, g7⟩ := hG
      refine ⟨g1, g2, g3, fun k a hk q ha => ?_, g5, fun _ a ha => ?_, fun q => ?_⟩
      · have hk : k < nN (ν 19 12 + 1) := hk
        rw [hn, nI_1, nN_n (by omega)] at hk
        have q : upd (ν 27) n (nI t) k = nI a := q
        by_cases ek : k = n
        · rw [ek, up_s, nI_eq (by omega) (by omega)] at q
          rw [← q]; exact hS
        · rw [up_n ek] at q
          exact g4 k a (by rw [hnn]; omega) q ha
      · rcases g6 hp a ha with q | q
        · left
          show upd (ν 23) t 1 a = 1
          rcases upd_or (f := ν 23) (t := t) (a := a) (x := 1) with ⟨z, -⟩ | ⟨z, -⟩
          · exact z
          · rw [z]; exact q
        · have seedt : ∀ u i, 1 ≤ i → i ≤ ptn ν t → ν 20 (t + i) = nI (u + 1) → seed (zp (zp (zp ν 23 t 1) 27 n (nI t)) 19 12 (ν 19 12 + 1)) u := fun u i z1 z2 z3 => Or.inr (Or.inl ⟨n, t, i, by show n < nN (ν 19 12 + 1); rw [hn, nI_1, nN_n (by omega)]; omega, t1, by show upd (ν 27) n (nI t) n = nI t; exact up_s, z1, z2, z3⟩)
          refine prot_step (ν := ν) (fun u hu hs => Or.inl ?_) (fun a u i hu w0 hob z1 z2 z3 => ?_) (fun a w0 => ?_) (fun a u i hu w1 w0 hob z1 z2 z3 => ?_) q
          · rcases hs with h | ⟨k, a, i, k1, ka, k2, k3⟩ | h
            · exact Or.inl h
            · exact Or.inr (Or.inl ⟨k, a, i, by show k < nN (ν 19 12 + 1); rw [hn, nI_1, nN_n (by omega)]; rw [hnn] at k1; omega, ka, by show upd (ν 27) n (nI t) k = nI a; rw [up_n (by rw [hnn] at k1; omega)]; exact k2, k3⟩)
            · exact Or.inr (Or.inr h)
          · rcases upd_or (f := ν 23) (t := t) (a := a) (x := 1) with ⟨z, rfl⟩ | ⟨z, -⟩
            · exact Or.inr (Or.inl (seedt u i z1 z2 z3))
            · exact Or.inl ⟨by show upd (ν 23) t 1 a = 0; rw [z]; exact w0, hob, z2, z3⟩
          · show upd (ν 23) t 1 a = 0 ∨ upd (ν 23) t 1 a = 1
            rcases upd_or (f := ν 23) (t := t) (a := a) (x := 1) with ⟨z, -⟩ | ⟨z, -⟩
            · exact Or.inr z
            · exact Or.inl (by rw [z]; exact w0)
          · have w1 : upd (ν 23) t 1 a = 1 := w1
            rcases upd_or (f := ν 23) (t := t) (a := a) (x := 1) with ⟨z, rfl⟩ | ⟨z, -⟩
            · exact Or.inl (seedt u i z1 z2 z3)
            · rw [z, w0] at w1; exact absurd w1 (by decide)
      · have q : ν 19 13 = 3 := q
        rcases hp with w | w <;> rw [w] at q <;> exact absurd q (by decide)
  · rw [if_neg hm]; exact hJ
