/-! a block that is free: how it is found -/
theorem ct_all {f : Nat → Bool} {lo : Nat} : ∀ n, (∀ i, i < n → f (lo + i) = true) → ct f lo n = n
  | 0, _ => rfl
  | n + 1, h => by
    rw [ct_c, ct_all n (fun i hi => h i (by omega)), if_pos (h n (by omega))]
theorem ct_lt {f : Nat → Bool} {lo i : Nat} : ∀ n, i < n → f (lo + i) = false → ct f lo n < n
  | 0, h, _ => by omega
  | n + 1, h, hf => by
    rw [ct_c]
    by_cases e : i = n
    · rw [← e, if_neg (by rw [hf]; decide)]
      have := ct_le (f := f) (lo := lo) i
      omega
    · have := ct_lt n (by omega) hf
      split <;> omega
/-- the first of n places from a on, sz apart, that holds nothing -/
def fv (f : Nat → Int32) (sz : Nat) : Nat → Nat → Option Nat
  | _, 0 => none
  | a, n + 1 => if f a = 0 then some a else fv f sz (a + sz) n
theorem fv_some {f : Nat → Int32} {sz : Nat} : ∀ (n a b : Nat), fv f sz a n = some b → f b = 0 ∧ ∃ i, i < n ∧ b = a + sz * i
  | 0, a, b, h => by cases h
  | n + 1, a, b, h => by
    unfold fv at h
    by_cases e : f a = 0
    · rw [if_pos e] at h
      have h : a = b := by cases h; rfl
      subst h
      exact ⟨e, 0, by omega, by omega⟩
    · rw [if_neg e] at h
      obtain ⟨h1, i, h2, h3⟩ := fv_some n (a + sz) b h
      refine ⟨h1, i + 1, by omega, ?_⟩
      rw [h3, Nat.mul_add]; omega
theorem fv_none {f : Nat → Int32} {sz : Nat} : ∀ (n a : Nat), fv f sz a n = none → ∀ i, i < n → f (a + sz * i) ≠ 0
  | 0, a, h, i, hi => by omega
  | n + 1, a, h, i, hi => by
    unfold fv at h
    by_cases e : f a = 0
    · rw [if_pos e] at h; cases h
    · rw [if_neg e] at h
      cases i with
      | zero => rw [Nat.mul_zero]; exact e
      | succ i =>
        have := fv_none n (a + sz) h i (by omega)
        rw [Nat.mul_add, show a + (sz * i + sz * 1) = a + sz + sz * i by omega]; exact this
/-- blocks stand sz apart: a count by blocks -/
theorem ct_blk {f : Nat → Bool} {lo sz : Nat} (hs : 1 ≤ sz) : ∀ n, (∀ i j, i < n → 1 ≤ j → j < sz → f (lo + (sz * i + j)) = false) → ct f lo (sz * n) = ct (fun i => f (lo + sz * i)) 0 n
  | 0, _ => rfl
  | n + 1, h => by
    have e1 : sz * (n + 1) = sz * n + (1 + (sz - 1)) := by rw [Nat.mul_add]; omega
    rw [e1, ct_add, ct_blk hs n (fun i j hi => h i j (by omega)), ct_add, ct_c (f := fun i => f (lo + sz * i)), Nat.zero_add, ct_z (f := f) (sz - 1) (fun i i1 i2 => ?_)]
    · rw [show ct f (lo + sz * n) 1 = 0 + if f (lo + sz * n + 0) = true then 1 else 0 from rfl, Nat.zero_add, Nat.add_zero, Nat.add_zero]
    · have := h n (i - (lo + sz * n)) (by omega) (by omega) (by omega)
      rw [show lo + (sz * n + (i - (lo + sz * n))) = i by omega] at this
      exact this
def rm (c : Int32) : Nat := 64 / bs c
theorem rm_v {c : Int32} (h : isCl c) : bs c * rm c = 64 ∧ (64 : Int32) / nI (bs c) = nI (rm c) ∧ 2 ≤ rm c ∧ rm c ≤ 16 ∧ nI (bs c) ≠ 0 := by
  rcases h with rfl | rfl | rfl | rfl <;> decide
theorem hd_blk {ν : zM} {pg p : Nat} {c : Int32} (hB : IB ν pg) (hp : p < 64) (hc : isCl c) (e : ν 21 p = c) : hd ν p = ct (fun i => kb (ν 22 (64 * p + bs c * i))) 0 (rm c) := by
  obtain ⟨r1, -⟩ := rm_v hc
  have hb := bs_le (c := c)
  have e0 : hd ν p = ct (fun a => kb (ν 22 a)) (64 * p) (bs c * rm c) := by rw [r1]; rfl
  rw [e0]
  refine ct_blk (f := fun a => kb (ν 22 a)) (lo := 64 * p) (sz := bs c) (by omega) (rm c) (fun i j hi j1 j2 => kb_f ?_)
  refine Decidable.byContradiction (fun q => ?_)
  have hle : bs c * i + bs c ≤ 64 := by
    rw [← r1, ← Nat.mul_succ]
    exact Nat.mul_le_mul_left _ hi
  obtain ⟨-, m⟩ := hB.al (a := 64 * p + (bs c * i + j)) (by omega) q
  have hpp : (64 * p + (bs c * i + j)) / 64 = p := by omega
  rw [hpp, e] at m
  rcases bs_v hc with ⟨-, w⟩ | ⟨-, w⟩ | ⟨-, w⟩ | ⟨-, w⟩ <;> rw [w] at m j2 <;> omega
theorem fv_hd {ν : zM} {pg p : Nat} {c : Int32} (hB : IB ν pg) (hp : p < 64) (hc : isCl c) (e : ν 21 p = c) : (hd ν p < rm c ∧ ∃ a, fv (ν 22) (bs c) (64 * p) (rm c) = some a ∧ ν 22 a = 0 ∧ a / 64 = p ∧ a % bs c = 0) ∨ (rm c ≤ hd ν p ∧ fv (ν 22) (bs c) (64 * p) (rm c) = none) := by
  rw [hd_blk hB hp hc e]
  obtain ⟨r1, -⟩ := rm_v hc
  have hb := bs_le (c := c)
  cases h : fv (ν 22) (bs c) (64 * p) (rm c) with
  | none =>
    right
    refine ⟨?_, rfl⟩
    rw [ct_all (f := fun i => kb (ν 22 (64 * p + bs c * i))) (rm c) (fun i hi => ?_)]
    · exact Nat.le_refl _
    · rw [Nat.zero_add]; exact kb_t (fv_none _ _ h i hi)
  | some a =>
    left
    obtain ⟨h1, i, h2, h3⟩ := fv_some _ _ _ h
    have hle : bs c * i + bs c ≤ 64 := by
      rw [← r1, ← Nat.mul_succ]
      exact Nat.mul_le_mul_left _ h2
    refine ⟨ct_lt (i := i) (rm c) h2 ?_, a, rfl, h1, by omega, ?_⟩
    · rw [Nat.zero_add]
      show kb (ν 22 (64 * p + bs c * i)) = false
      rw [← h3]; exact kb_f h1
    · rw [h3]
      rcases bs_v hc with ⟨-, w⟩ | ⟨-, w⟩ | ⟨-, w⟩ | ⟨-, w⟩ <;> rw [w] <;> omega
/-- the first page from p on, of n, of class c with room -/
def pw (ν : zM) (c : Int32) : Nat → Nat → Option Nat
  | _, 0 => none
  | p, n + 1 => if ν 21 p = c ∧ hd ν p < rm c then some p else pw ν c (p + 1) n
theorem pw_some {ν : zM} {c : Int32} : ∀ (n p q : Nat), pw ν c p n = some q → p ≤ q ∧ q < p + n ∧ ν 21 q = c ∧ hd ν q < rm c
  | 0, p, q, h => by cases h
  | n + 1, p, q, h => by
    unfold pw at h
    by_cases e : ν 21 p = c ∧ hd ν p < rm c
    · rw [if_pos e] at h
      have h : p = q := by cases h; rfl
      subst h
      exact ⟨by omega, by omega, e.1, e.2⟩
    · rw [if_neg e] at h
      obtain ⟨h1, h2, h3⟩ := pw_some n (p + 1) q h
      exact ⟨by omega, by omega, h3⟩
/-- the first page from p on, of n, that has no class -/
def po (ν : zM) : Nat → Nat → Option Nat
  | _, 0 => none
  | p, n + 1 => if ν 21 p = -1 then some p else po ν (p + 1) n
theorem po_some {ν : zM} : ∀ (n p q : Nat), po ν p n = some q → p ≤ q ∧ q < p + n ∧ ν 21 q = -1
  | 0, p, q, h => by cases h
  | n + 1, p, q, h => by
    unfold po at h
    by_cases e : ν 21 p = -1
    · rw [if_pos e] at h
      have h : p = q := by cases h; rfl
      subst h
      exact ⟨by omega, by omega, e⟩
    · rw [if_neg e] at h
      obtain ⟨h1, h2, h3⟩ := po_some n (p + 1) q h
      exact ⟨by omega, by omega, h3⟩
theorem po_c {ν : zM} {p n : Nat} : po ν p (n + 1) = if ν 21 p = -1 then some p else po ν (p + 1) n := rfl
theorem pw_c {ν : zM} {c : Int32} {p n : Nat} : pw ν c p (n + 1) = if ν 21 p = c ∧ hd ν p < rm c then some p else pw ν c (p + 1) n := rfl
section KFIND
variable {ν μ : zM} {pg : Nat} {c : Int32} {K : Int32 → zM → Prop}
theorem k_openL (hB : IB ν pg) (hR : RA ν μ pg) (k0 : po ν 0 pg = none → K (-1) μ) (k1 : ∀ p, po ν 0 pg = some p → K (nI p) (zp (zp μ 8 p c) 2 8 (μ 2 8 - 1))) : ∀ (m p : Nat), p + m = pg → po ν 0 pg = po ν p m → F_Bk_openPage_2 K (m + 1) c (nI p) μ
  | 0, p, h, e => by
    have gp := hB.1.2.1
    refine br_t (by rw [hR.1.1]; exact nI_le (by omega) (by omega)) (k0 (by rw [e]; rfl))
  | m + 1, p, h, e => by
    have gp := hB.1.2.1
    rw [po_c] at e
    refine br_f (by rw [hR.1.1]; exact nI_ge (by omega) (by omega)) ⟨vp_in_nI (by omega) (by decide), ?_⟩
    rw [nI_clamp (by omega), hR.1.2.2.2.2.2.2.2.1 p (by omega)]
    refine ⟨fun q => ?_, fun q => ⟨vp_in_nI (by omega) (by decide), ?_⟩⟩
    · intro x4 e4
      rw [nI_1] at e4
      subst e4
      rw [if_neg q] at e
      exact k_openL hB hR k0 k1 m (p + 1) (by omega) e
    · rw [if_pos q] at e
      exact nm_e (nm_e (k1 p e))
theorem k_pwL (hB : IB ν pg) (hR : RA ν μ pg) (hc : isCl c) (k0 : pw ν c 0 pg = none → f_Bk_openPage μ c K) (k1 : ∀ p, pw ν c 0 pg = some p → K (nI p) μ) : ∀ (m p : Nat), p + m = pg → pw ν c 0 pg = pw ν c p m → F_Bk_pageWithRoom_19 K (m + 1) c (nI (rm c)) (nI p) μ
  | 0, p, h, e => by
    have gp := hB.1.2.1
    refine br_t (by rw [hR.1.1]; exact nI_le (by omega) (by omega)) (k0 (by rw [e]; rfl))
  | m + 1, p, h, e => by
    have gp := hB.1.2.1
    obtain ⟨-, -, -, r4, -⟩ := rm_v hc
    have h64 := hd_le (ν := ν) (p := p)
    rw [pw_c] at e
    refine br_f (by rw [hR.1.1]; exact nI_ge (by omega) (by omega)) ⟨vp_in_nI (by omega) (by decide), ?_⟩
    rw [nI_clamp (by omega), hR.1.2.2.2.2.2.2.2.1 p (by omega), hR.1.2.2.2.2.2.2.2.2.1 p (by omega)]
    have nx : ¬ (ν 21 p = c ∧ hd ν p < rm c) → ∀ x4 : Int32, x4 = nI p + 1 → F_Bk_pageWithRoom_19 K (m + 1) c (nI (rm c)) x4 μ := fun q x4 e4 => by
      rw [nI_1] at e4
      subst e4
      rw [if_neg q] at e
      exact k_pwL hB hR hc k0 k1 m (p + 1) (by omega) e
    refine ⟨fun q => nx (fun z => q z.1), fun q => ⟨vp_in_nI (by omega) (by decide), fun q2 => nx (fun z => ?_), fun q2 => ?_⟩⟩
    · rw [nI_leI (by omega) (by omega)] at q2
      omega
    · rw [nI_leI (by omega) (by omega)] at q2
      rw [if_pos ⟨q, by omega⟩] at e
      exact k1 p e
theorem k_pw (hB : IB ν pg) (hR : RA ν μ pg) (hc : isCl c) (k00 : pw ν c 0 pg = none → po ν 0 pg = none → K (-1) μ) (k01 : ∀ p, pw ν c 0 pg = none → po ν 0 pg = some p → K (nI p) (zp (zp μ 8 p c) 2 8 (μ 2 8 - 1))) (k1 : ∀ p, pw ν c 0 pg = some p → K (nI p) μ) : f_Bk_pageWithRoom μ c K := by
  obtain ⟨z1, z2, z3, z4⟩ := zb_v hc
  obtain ⟨-, r2, -, -, r5⟩ := rm_v hc
  unfold f_Bk_pageWithRoom f_Bh_isClass
  refine br_f z3 (br_f z4 (bn_t (by decide) ?_))
  refine k_blockWords hc ⟨r5, ?_⟩
  intro x7 e7
  rw [r2] at e7
  subst e7
  refine ⟨pg + 1, k_pwL hB hR hc (fun q => ⟨pg + 1, ?_⟩) k1 pg 0 (by omega) rfl⟩
  exact k_openL hB hR (k00 q) (fun p => k01 p q) pg 0 (by omega) rfl
theorem k_fvL {p sz : Nat} {a : Nat} (b1 : μ 2 7 = nI pg) (hp : pg ≤ 64) (hpp : p < pg) (b4 : ∀ s, s < 1024 → μ 4 s = ν 22 (4 * s)) (hs : 4 ≤ sz) (hs4 : sz % 4 = 0) (k : K (nI a) μ) : ∀ (n j : Nat), sz * j + sz * n ≤ 64 → fv (ν 22) sz (64 * p + sz * j) n = some a → F_Bk_firstVacant_25 K n (nI p) (nI sz) (nI (64 * p + sz * j)) μ
  | 0, j, _, h => by cases h
  | n + 1, j, hle, h => by
    have e1 : sz * (n + 1) = sz * n + sz := Nat.mul_succ _ _
    have e2 : sz * (j + 1) = sz * j + sz := Nat.mul_succ _ _
    unfold fv at h
    refine br_f (by rw [show (1 : Int32) = nI 1 from rfl, nI_add, nI_m64]; exact nI_ge (by omega) (by omega)) ?_
    refine k_kind b1 hp (by omega) ?_
    have a4 : (64 * p + sz * j) % 4 = 0 := by
      rw [Nat.add_mod, Nat.mul_mod sz j, hs4]; omega
    rw [b4 _ (by omega), show 4 * ((64 * p + sz * j) / 4) = 64 * p + sz * j by omega]
    refine ⟨fun q => ?_, fun q => ?_⟩
    · rw [if_neg q, show 64 * p + sz * j + sz = 64 * p + sz * (j + 1) by omega] at h
      intro x12 e12
      rw [nI_add, show 64 * p + sz * j + sz = 64 * p + sz * (j + 1) by omega] at e12
      subst e12
      exact k_fvL b1 hp hpp b4 hs hs4 k n (j + 1) (by omega) h
    · rw [if_pos q] at h
      have h : 64 * p + sz * j = a := by cases h; rfl
      rw [h]; exact k
theorem k_fv {p a : Nat} (b1 : μ 2 7 = nI pg) (hp : pg ≤ 64) (hpp : p < pg) (b8 : μ 8 p = c) (b4 : ∀ s, s < 1024 → μ 4 s = ν 22 (4 * s)) (hc : isCl c) (h : fv (ν 22) (bs c) (64 * p) (rm c) = some a) (k : K (nI a) μ) : f_Bk_firstVacant μ (nI p) K := by
  obtain ⟨r1, -⟩ := rm_v hc
  unfold f_Bk_firstVacant
  refine k_page b1 hp hpp (bn_t (by decide) ⟨vp_in_nI (by omega) (by decide), ?_⟩)
  rw [nI_clamp (by omega), b8]
  refine k_blockWords hc ?_
  intro x7 e7
  rw [nI_m64, show p * 64 = 64 * p + bs c * 0 by omega] at e7
  subst e7
  have hb := bs_le (c := c)
  have h4 : bs c % 4 = 0 := by rcases bs_v hc with ⟨-, w⟩ | ⟨-, w⟩ | ⟨-, w⟩ | ⟨-, w⟩ <;> rw [w]
  exact ⟨rm c, k_fvL b1 hp hpp b4 (by omega) h4 k (rm c) 0 (by rw [r1]; omega) (by rw [Nat.mul_zero]; exact h)⟩
end KFIND
