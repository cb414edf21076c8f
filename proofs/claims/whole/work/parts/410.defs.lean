/-! the model's own steps as functions on its memory ν (cells 19 .. 28), and how the class's memory μ stands to it -/
abbrev nN (x : Int32) : Nat := x.toNatClampNeg
theorem nN_n {n : Nat} (h : n < 2147483648) : nN (nI n) = n := nI_clamp h
def g_ix (ν : zM) : Nat := (nN (ν 19 22) + nN (ν 19 23)) % 2000
def g_tick (ν : zM) (b : Int32) : zM := if b = 0 then zp (zp ν 28 (g_ix ν) 0) 19 23 (ν 19 23 + 1) else zp (zp ν 28 (g_ix ν) 1) 19 22 (ν 19 22 + 1)
/-- the ticks: how many were the program's and the collector's -/
def IK (ν : zM) (a c : Nat) : Prop := ν 19 22 = nI a ∧ ν 19 23 = nI c ∧ a + c < 1000000000
/-- the class's clock stands so -/
def RK (ν μ : zM) : Prop := μ 10 3 = ν 19 22 ∧ μ 10 4 = ν 19 23 ∧ (∀ i, i < 2000 → μ 11 i = ν 28 i)
/-- the ring's place and how many are kept, t ticks in all -/
def RN (μ : zM) (t : Nat) : Prop := μ 10 2 = nI (min t 2000) ∧ (μ 10 1 = nI (t % 2000) ∨ (t % 2000 = 0 ∧ μ 10 1 = nI 2000))
theorem ti_nadd {a c : Nat} (h : a + c < 2147483648) : nI a + nI c = nI (a + c) := nI_add a c
theorem ti_rem {t : Nat} (h : t < 2147483648) : nI t - nI t / (2000 : Int32) * (2000 : Int32) = nI (t % 2000) := pk_rem (d := 2000) h (by decide) (by decide)
theorem m_tick {ν : zM} {a c : Nat} {b : Int32} {K : zM → Prop} (hb : b = 0 ∨ b = 1) (hK : IK ν a c) (k : K (g_tick ν b)) : f_Mo_tick ν b K := by
  obtain ⟨h1, h2, h3⟩ := hK
  have hs : (ν 19 22 + ν 19 23) = nI (a + c) := by rw [h1, h2, nI_add]
  have hi : g_ix ν = (a + c) % 2000 := by
    unfold g_ix
    rw [h1, h2, nN_n (by omega), nN_n (by omega)]
  unfold f_Mo_tick
  rw [hs, ti_rem (by omega)]
  have hm : (a + c) % 2000 < 2000 := Nat.mod_lt _ (by decide)
  have hcl : (nI ((a + c) % 2000)).toNatClampNeg = (a + c) % 2000 := nI_clamp (by omega)
  refine ⟨vp_in_nI hm (by decide), ?_⟩
  intro μ2 e2
  rw [hcl, ← hi] at e2
  rcases hb with rfl | rfl
  · refine ⟨fun _ μ4 e4 => ?_, fun h => absurd rfl h⟩
    rw [nz0] at e2
    have : μ4 = g_tick ν 0 := by rw [e4, e2]; rfl
    rw [this]; exact k
  · refine ⟨fun h => absurd h (by decide), fun _ μ5 e5 => ?_⟩
    rw [nz1] at e2
    have : μ5 = g_tick ν 1 := by rw [e5, e2]; rfl
    rw [this]; exact k
/-- one tick in the class's ring -/
theorem k_keep {ν μ : zM} {t i : Nat} {b : Int32} {K : zM → Prop} (hb : b = 0 ∨ b = 1) (ht : t < 1000000000) (hN : RN μ t) (hi : i = t % 2000) (hr : ∀ j, j < 2000 → μ 11 j = ν 28 j)
    (k : ∀ μ' : zM, (∀ q, q ≠ 10 → q ≠ 11 → μ' q = μ q) → μ' 10 3 = μ 10 3 → μ' 10 4 = μ 10 4 → RN μ' (t + 1) → (∀ j, j < 2000 → μ' 11 j = upd (ν 28) i b j) → K μ') : f_Ck_keep μ b K := by
  have hm : t % 2000 < 2000 := Nat.mod_lt _ (by decide)
  have hbn : vp_nar .byte b.toInt8.toInt32 = b := by rcases hb with rfl | rfl <;> decide
  obtain ⟨hk, hn⟩ := hN
  have fin : ∀ (μ5 : zM) (n' : Nat), (∀ q, q ≠ 10 → q ≠ 11 → μ5 q = μ q) → μ5 10 3 = μ 10 3 → μ5 10 4 = μ 10 4 → μ5 10 2 = μ 10 2 → μ5 10 1 = nI n' → (n' = (t + 1) % 2000 ∨ ((t + 1) % 2000 = 0 ∧ n' = 2000)) → (∀ j, j < 2000 → μ5 11 j = upd (ν 28) i b j) →
      ((2000 : Int32) ≤ μ5 10 2 → K μ5) ∧ (¬ (2000 : Int32) ≤ μ5 10 2 → ∀ μ7 : zM, μ7 = zp μ5 10 2 (μ5 10 2 + 1) → K μ7) := by
    intro μ5 n' h1 h2 h3 h4 h5 h6 h7
    have hn' : ∀ μ8 : zM, μ8 10 1 = μ5 10 1 → (μ8 10 1 = nI ((t + 1) % 2000) ∨ ((t + 1) % 2000 = 0 ∧ μ8 10 1 = nI 2000)) := by
      intro μ8 e
      rcases h6 with h6 | ⟨h6, h6'⟩
      · exact Or.inl (by rw [e, h5, h6])
      · exact Or.inr ⟨h6, by rw [e, h5, h6']⟩
    refine ⟨fun h => ?_, fun h μ7 e7 => ?_⟩
    · refine k μ5 h1 h2 h3 ⟨?_, hn' μ5 rfl⟩ h7
      rw [h4, hk, show (2000 : Int32) = nI 2000 from rfl, nI_leI (by decide) (by omega)] at h
      rw [h4, hk]
      congr 1
      omega
    · subst e7
      refine k _ (fun q q1 q2 => ?_) h2 h3 ⟨?_, hn' _ rfl⟩ (fun j hj => h7 j hj)
      · rw [zp_n q1]; exact h1 q q1 q2
      · rw [h4, hk, show (2000 : Int32) = nI 2000 from rfl, nI_leI (by decide) (by omega)] at h
        show μ5 10 2 + 1 = _
        rw [h4, hk, nI_1]
        congr 1
        omega
  have wr : ∀ (μ2 : zM), (∀ q, q ≠ 10 → μ2 q = μ q) → μ2 10 3 = μ 10 3 → μ2 10 4 = μ 10 4 → μ2 10 2 = μ 10 2 → μ2 10 1 = nI i → vp_in (μ2 10 1) 2000 ∧ ∀ μ4 : zM, μ4 = zp μ2 11 (μ2 10 1).toNatClampNeg (vp_nar .byte b.toInt8.toInt32) → ∀ μ5 : zM, μ5 = zp μ4 10 1 (μ4 10 1 + 1) → ((2000 : Int32) ≤ μ5 10 2 → K μ5) ∧ (¬ (2000 : Int32) ≤ μ5 10 2 → ∀ μ7 : zM, μ7 = zp μ5 10 2 (μ5 10 2 + 1) → K μ7) := by
    intro μ2 h1 h2 h3 h4 h5
    have hc : (μ2 10 1).toNatClampNeg = i := by rw [h5]; exact nI_clamp (by omega)
    refine ⟨by rw [h5]; exact vp_in_nI (by omega) (by decide), fun μ4 e4 μ5 e5 => ?_⟩
    rw [hc, hbn] at e4
    subst e4
    subst e5
    refine fin _ (i + 1) (fun q q1 q2 => ?_) h2 h3 h4 ?_ (by omega) (fun j hj => ?_)
    · rw [zp_n q1, zp_n q2]; exact h1 q q1
    · show μ2 10 1 + 1 = _
      rw [h5, nI_1]
    · show upd (μ2 11) i b j = _
      by_cases hj2 : j = i
      · subst hj2; rw [up_s, up_s]
      · rw [up_n hj2, up_n hj2, h1 11 (by decide)]; exact hr j hj
  unfold f_Ck_keep
  rcases hn with hn | ⟨hn0, hn⟩
  · refine br_f (by rw [hn]; exact nI_pos (by omega)) ?_
    refine br_t (by rw [hn]; exact nI_lt hm (by decide)) ?_
    exact wr μ (fun _ _ => rfl) rfl rfl rfl (by rw [hn, hi])
  · refine br_f (by rw [hn]; decide) ?_
    refine br_f (by rw [hn]; decide) ?_
    intro μ2 e2
    subst e2
    exact wr _ (fun q q1 => zp_n q1) rfl rfl rfl (by rw [hi, hn0]; rfl)
