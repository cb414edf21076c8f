/-! Int32 by its number; a memory's cells -/
theorem ti_lt {x y : Int32} : x < y ↔ x.toInt < y.toInt := Int32.lt_iff_toInt_lt
theorem ti_le {x y : Int32} : x ≤ y ↔ x.toInt ≤ y.toInt := Int32.le_iff_toInt_le
theorem ti_eq {x y : Int32} : x = y ↔ x.toInt = y.toInt := Int32.toInt_inj.symm
theorem ti_b (x : Int32) : -2147483648 ≤ x.toInt ∧ x.toInt < 2147483648 := ⟨Int32.le_toInt x, Int32.toInt_lt x⟩
theorem ti_bm {a : Int} (h : -2147483648 ≤ a ∧ a < 2147483648) : a.bmod (2 ^ 32) = a := by
  apply Int.bmod_eq_of_le <;> omega
theorem ti_add {x y : Int32} (h : -2147483648 ≤ x.toInt + y.toInt ∧ x.toInt + y.toInt < 2147483648) : (x + y).toInt = x.toInt + y.toInt := by
  rw [Int32.toInt_add]; exact ti_bm h
theorem ti_sub {x y : Int32} (h : -2147483648 ≤ x.toInt - y.toInt ∧ x.toInt - y.toInt < 2147483648) : (x - y).toInt = x.toInt - y.toInt := by
  rw [Int32.toInt_sub]; exact ti_bm h
theorem ti_mul {x y : Int32} (h : -2147483648 ≤ x.toInt * y.toInt ∧ x.toInt * y.toInt < 2147483648) : (x * y).toInt = x.toInt * y.toInt := by
  rw [Int32.toInt_mul]; exact ti_bm h
theorem ti_n {n : Nat} (h : n < 2147483648) : (nI n).toInt = n := nI_toInt h
theorem ti_of {x : Int32} {n : Nat} (h : x.toInt = n) : x = nI n := by
  have hb := ti_b x
  rw [ti_eq, h, ti_n (by omega)]
theorem ti_nat {x : Int32} (h : 0 ≤ x.toInt) : ∃ n : Nat, n < 2147483648 ∧ x = nI n := by
  have hb := ti_b x
  exact ⟨x.toInt.toNat, by omega, ti_of (by omega)⟩
theorem ti_cl {x : Int32} {n : Nat} (h : x.toInt = n) : x.toNatClampNeg = n := by
  rw [ti_of h]; exact nI_clamp (by have hb := ti_b x; omega)
theorem ti_in {x : Int32} {n : Nat} (h : 0 ≤ x.toInt ∧ x.toInt < n) : vp_in x n := vp_in_iff.mpr h
theorem ti_0 : (0 : Int32).toInt = 0 := by decide
theorem ti_m1 : (-1 : Int32).toInt = -1 := by decide
theorem zs_s {μ : zM} {k : Nat} {f : Nat → Int32} : zs μ k f k = f := by simp [zs]
theorem zs_n {μ : zM} {k i : Nat} {f : Nat → Int32} (h : i ≠ k) : zs μ k f i = μ i := by simp [zs, h]
theorem zp_n {μ : zM} {k i j : Nat} {v : Int32} (h : i ≠ k) : zp μ k j v i = μ i := zs_n h
theorem zp_s {μ : zM} {k j : Nat} {v : Int32} : zp μ k j v k = upd (μ k) j v := zs_s
theorem up_s {f : Nat → Int32} {k : Nat} {x : Int32} : upd f k x k = x := by simp [upd]
theorem up_n {f : Nat → Int32} {k j : Nat} {x : Int32} (h : j ≠ k) : upd f k x j = f j := by simp [upd, h]
/-- branches, by numbers -/
theorem bl {x y : Int32} {A B : Prop} (f : x.toInt < y.toInt → A) (g : y.toInt ≤ x.toInt → B) : (x < y → A) ∧ (¬ x < y → B) := ⟨fun h => f (ti_lt.mp h), fun h => g (by rw [ti_lt] at h; omega)⟩
theorem bg {x y : Int32} {A B : Prop} (f : x.toInt ≤ y.toInt → A) (g : y.toInt < x.toInt → B) : (x ≤ y → A) ∧ (¬ x ≤ y → B) := ⟨fun h => f (ti_le.mp h), fun h => g (by rw [ti_le] at h; omega)⟩
theorem be {x y : Int32} {A B : Prop} (f : x = y → A) (g : x ≠ y → B) : (x = y → A) ∧ (¬ x = y → B) := ⟨f, g⟩
theorem bn {x y : Int32} {A B : Prop} (f : x ≠ y → A) (g : x = y → B) : (¬ x = y → A) ∧ (x = y → B) := ⟨f, g⟩
theorem nI_li (n : Nat) : nI n = Int32.ofNat n := rfl
theorem nI_64 : (64 : Int32) = nI 64 := rfl
theorem nb0 : vp_nar .byte (0 : Int32) = 0 := by decide
theorem nb1 : vp_nar .byte (1 : Int32) = 1 := by decide
theorem nz0 : vp_nar .boolean (0 : Int32) = 0 := by decide
theorem nz1 : vp_nar .boolean (1 : Int32) = 1 := by decide
/-- how many of n places from lo on -/
def ct (f : Nat → Bool) (lo : Nat) : Nat → Nat
  | 0 => 0
  | n + 1 => ct f lo n + if f (lo + n) = true then 1 else 0
theorem ct_le {f : Nat → Bool} {lo : Nat} : ∀ n, ct f lo n ≤ n
  | 0 => Nat.le_refl 0
  | n + 1 => by
    have h := ct_le (f := f) (lo := lo) n
    unfold ct
    split <;> omega
def kb (x : Int32) : Bool := if x = 0 then false else true
theorem kb_t {x : Int32} (h : x ≠ 0) : kb x = true := by unfold kb; rw [if_neg h]
theorem kb_f {x : Int32} (h : x = 0) : kb x = false := by unfold kb; rw [if_pos h]
theorem kb_i {x : Int32} : kb x = true ↔ x ≠ 0 := ⟨fun h q => absurd h (by rw [kb_f q]; decide), kb_t⟩
def cb (x : Int32) : Bool := if x = -1 then true else false
theorem cb_t {x : Int32} (h : x = -1) : cb x = true := by unfold cb; rw [if_pos h]
theorem cb_f {x : Int32} (h : x ≠ -1) : cb x = false := by unfold cb; rw [if_neg h]
theorem cb_i {x : Int32} : cb x = true ↔ x = -1 := ⟨fun h => Decidable.byContradiction (fun q => absurd h (by rw [cb_f q]; decide)), cb_t⟩
theorem bn_t {c A B : Prop} (h : ¬ c) (a : A) : (¬ c → A) ∧ (c → B) := ⟨fun _ => a, fun q => absurd q h⟩
theorem bn_f {c A B : Prop} (h : c) (b : B) : (¬ c → A) ∧ (c → B) := ⟨fun q => absurd h q, fun _ => b⟩
