/-! the class's small methods, by the number of pages -/
theorem nI_d4 {a : Nat} (h : a < 2147483648) : nI a / (4 : Int32) = nI (a / 4) := pk_div (d := 4) h (by decide) (by decide)
theorem nI_d64 {a : Nat} (h : a < 2147483648) : nI a / (64 : Int32) = nI (a / 64) := pk_div (d := 64) h (by decide) (by decide)
theorem nI_m64 {a : Nat} : nI a * (64 : Int32) = nI (a * 64) := pk_mul a 64
theorem nI_64m {a : Nat} : (64 : Int32) * nI a = nI (64 * a) := pk_mul 64 a
section ACC
variable {μ : zM} {pg a : Nat} {K : Int32 → zM → Prop} {Kv : zM → Prop}
theorem k_ins (hpg : μ 2 7 = nI pg) (hp : pg ≤ 64) (ha : a < 64 * pg) (k : K 1 μ) : f_Bk_isInside μ (nI a) K := by
  unfold f_Bk_isInside
  refine br_f (nI_pos (by omega)) ?_
  refine br_f ?_ k
  rw [hpg, nI_m64]
  exact nI_ge (by omega) (by omega)
theorem k_insN (k : K 0 μ) : f_Bk_isInside μ (-1) K := by
  unfold f_Bk_isInside
  exact br_t (by decide) k
/-- any argument -/
theorem k_insA {x : Int32} (hpg : μ 2 7 = nI pg) (hp : pg ≤ 64) (k1 : ∀ n : Nat, n < 64 * pg → x = nI n → K 1 μ) (k0 : (x.toInt < 0 ∨ ((64 * pg : Nat) : Int) ≤ x.toInt) → K 0 μ) : f_Bk_isInside μ x K := by
  unfold f_Bk_isInside
  refine bl (fun h => k0 (Or.inl (by rw [ti_0] at h; exact h))) (fun h => ?_)
  rw [ti_0] at h
  have e : (μ 2 7 * 64).toInt = ((64 * pg : Nat) : Int) := by rw [hpg, nI_m64, ti_n (by omega)]; omega
  refine bg (fun h2 => k0 (Or.inr (by rw [e] at h2; exact h2))) (fun h2 => ?_)
  rw [e] at h2
  exact k1 x.toInt.toNat (by omega) (ti_of (by omega))
theorem k_page (hpg : μ 2 7 = nI pg) (hp : pg ≤ 64) (ha : a < pg) (k : K 1 μ) : f_Bk_isPage μ (nI a) K := by
  unfold f_Bk_isPage
  refine br_f (nI_pos (by omega)) ?_
  refine br_f ?_ k
  rw [hpg]
  exact nI_ge (by omega) (by omega)
theorem k_pageA {x : Int32} (hpg : μ 2 7 = nI pg) (hp : pg ≤ 64) (k1 : ∀ n : Nat, n < pg → x = nI n → K 1 μ) (k0 : (x.toInt < 0 ∨ (pg : Int) ≤ x.toInt) → K 0 μ) : f_Bk_isPage μ x K := by
  unfold f_Bk_isPage
  refine bl (fun h => k0 (Or.inl (by rw [ti_0] at h; exact h))) (fun h => ?_)
  rw [ti_0] at h
  have e : (μ 2 7).toInt = (pg : Int) := by rw [hpg, ti_n (by omega)]
  refine bg (fun h2 => k0 (Or.inr (by rw [e] at h2; exact h2))) (fun h2 => ?_)
  rw [e] at h2
  exact k1 x.toInt.toNat (by omega) (ti_of (by omega))
theorem k_ix (ha : a < 4096) : vp_in (nI a / (4 : Int32)) 1024 ∧ (nI a / (4 : Int32)).toNatClampNeg = a / 4 := by
  rw [nI_d4 (by omega)]
  exact ⟨vp_in_nI (by omega) (by decide), nI_clamp (by omega)⟩
theorem k_kind (hpg : μ 2 7 = nI pg) (hp : pg ≤ 64) (ha : a < 64 * pg) (k : K (μ 4 (a / 4)) μ) : f_Bk_kindOf μ (nI a) K := by
  unfold f_Bk_kindOf
  refine k_ins hpg hp ha ?_
  refine br_f (by decide) ⟨(k_ix (by omega)).1, ?_⟩
  rw [(k_ix (by omega)).2]; exact k
theorem k_kindN (k : K 0 μ) : f_Bk_kindOf μ (-1) K := by
  unfold f_Bk_kindOf
  exact k_insN (br_t rfl k)
theorem k_ptrs (hpg : μ 2 7 = nI pg) (hp : pg ≤ 64) (ha : a < 64 * pg) (k : K (μ 6 (a / 4)) μ) : f_Bk_pointersOf μ (nI a) K := by
  unfold f_Bk_pointersOf
  refine k_ins hpg hp ha ?_
  refine br_f (by decide) ⟨(k_ix (by omega)).1, ?_⟩
  rw [(k_ix (by omega)).2]; exact k
theorem k_nums (hpg : μ 2 7 = nI pg) (hp : pg ≤ 64) (ha : a < 64 * pg) (k : K (μ 7 (a / 4)) μ) : f_Bk_numbersOf μ (nI a) K := by
  unfold f_Bk_numbersOf
  refine k_ins hpg hp ha ?_
  refine br_f (by decide) ⟨(k_ix (by omega)).1, ?_⟩
  rw [(k_ix (by omega)).2]; exact k
theorem k_marked (hpg : μ 2 7 = nI pg) (hp : pg ≤ 64) (ha : a < 64 * pg) (k0 : μ 5 (a / 4) = 0 → K 0 μ) (k1 : μ 5 (a / 4) ≠ 0 → K 1 μ) : f_Bk_isMarked μ (nI a) K := by
  unfold f_Bk_isMarked
  refine k_ins hpg hp ha ?_
  refine br_f (by decide) ⟨(k_ix (by omega)).1, ?_⟩
  rw [(k_ix (by omega)).2]; exact ⟨k0, k1⟩
theorem k_setMark {b : Int32} (hb : b = 0 ∨ b = 1) (hpg : μ 2 7 = nI pg) (hp : pg ≤ 64) (ha : a < 64 * pg) (k : Kv (zp μ 5 (a / 4) b)) : f_Bk_setMark μ (nI a) b Kv := by
  unfold f_Bk_setMark
  refine k_ins hpg hp ha ?_
  refine br_f (by decide) ?_
  rw [(k_ix (by omega)).2, nb0, nb1]
  rcases hb with rfl | rfl
  · exact br_t rfl ⟨(k_ix (by omega)).1, nm_e k⟩
  · exact br_f (by decide) ⟨(k_ix (by omega)).1, nm_e k⟩
theorem k_word (hpg : μ 2 7 = nI pg) (hp : pg ≤ 64) (ha : a < 64 * pg) (k : K (μ 3 a) μ) : f_Bk_wordAt μ (nI a) K := by
  unfold f_Bk_wordAt
  refine k_ins hpg hp ha ?_
  refine br_f (by decide) ⟨vp_in_nI (by omega) (by decide), ?_⟩
  rw [nI_clamp (by omega)]; exact k
theorem k_ptrAt (hpg : μ 2 7 = nI pg) (hp : pg ≤ 64) (ha : a < 64 * pg) (k : K (μ 3 a - 1) μ) : f_Bk_pointerAt μ (nI a) K := by
  unfold f_Bk_pointerAt
  exact k_word hpg hp ha k
theorem k_setWord {v : Int32} (hpg : μ 2 7 = nI pg) (hp : pg ≤ 64) (ha : a < 64 * pg) (k : Kv (zp μ 3 a v)) : f_Bk_setWord μ (nI a) v Kv := by
  unfold f_Bk_setWord
  refine k_ins hpg hp ha ?_
  refine br_f (by decide) ⟨vp_in_nI (by omega) (by decide), ?_⟩
  rw [nI_clamp (by omega)]; exact nm_e k
theorem k_setPtr {v : Int32} (hpg : μ 2 7 = nI pg) (hp : pg ≤ 64) (ha : a < 64 * pg) (k : Kv (zp μ 3 a (v + 1))) : f_Bk_setPointer μ (nI a) v Kv := by
  unfold f_Bk_setPointer
  exact k_setWord hpg hp ha k
theorem k_class (hpg : μ 2 7 = nI pg) (hp : pg ≤ 64) (ha : a < pg) (k : K (μ 8 a) μ) : f_Bk_classOf μ (nI a) K := by
  unfold f_Bk_classOf
  refine k_page hpg hp ha ?_
  refine br_f (by decide) ⟨vp_in_nI (by omega) (by decide), ?_⟩
  rw [nI_clamp (by omega)]; exact k
end ACC
