/-! what holds of the model's memory ν, and how the class's memory μ stands to it -/
def bs (x : Int32) : Nat := if x = 0 then 4 else if x = 1 then 8 else if x = 2 then 16 else 32
def isCl (x : Int32) : Prop := x = 0 ∨ x = 1 ∨ x = 2 ∨ x = 3
def ob (ν : zM) (a : Nat) : Prop := a < 4096 ∧ (ν 22 a = 1 ∨ ν 22 a = 2)
def hd (ν : zM) (p : Nat) : Nat := ct (fun a => kb (ν 22 a)) (64 * p) 64
def fr (ν : zM) (pg : Nat) : Nat := ct (fun p => cb (ν 21 p)) 0 pg
def ha (ν : zM) (pg : Nat) : Nat := ct (fun a => kb (ν 22 a)) 0 (64 * pg)
def ptn (ν : zM) (a : Nat) : Nat := nN (ν 24 a)
/-- pages and classes -/
def I1 (ν : zM) (pg : Nat) : Prop := 4 ≤ pg ∧ pg ≤ 64 ∧ ν 19 0 = nI pg
def I2 (ν : zM) (pg : Nat) : Prop := ∀ p, p < 64 → ν 21 p = -1 ∨ (isCl (ν 21 p) ∧ p < pg)
/-- kinds: a block that holds something begins where a block of its page may -/
def I3 (ν : zM) : Prop := ∀ a, a < 4096 → ν 22 a = 0 ∨ ((ν 22 a = 1 ∨ ν 22 a = 2 ∨ ν 22 a = 3) ∧ isCl (ν 21 (a / 64)) ∧ a % bs (ν 21 (a / 64)) = 0)
def I4 (ν : zM) : Prop := ∀ a, a < 4096 → ν 23 a = 0 ∨ (ν 23 a = 1 ∧ ν 22 a ≠ 0)
/-- what is free is 0 -/
def I5 (ν : zM) : Prop := ∀ w, w < 4096 → ν 20 w ≠ 0 → ∃ a, a < 4096 ∧ ν 22 a ≠ 0 ∧ a ≤ w ∧ w < a + bs (ν 21 (a / 64))
/-- shapes -/
def I6 (ν : zM) : Prop := ∀ a, a < 4096 →
  (ν 22 a = 1 → ∃ m n : Nat, ν 24 a = nI m ∧ ν 25 a = nI n ∧ 1 ≤ m + n ∧ m + n + 1 ≤ bs (ν 21 (a / 64))) ∧
  (ν 22 a = 2 → ∃ m n : Nat, ν 24 a = nI m ∧ ν 25 a = nI n ∧ 32 ≤ n ∧ n ≤ 512 ∧ m = (n + 31) / 32 ∧ m + 1 ≤ bs (ν 21 (a / 64))) ∧
  (ν 22 a = 3 → ν 24 a = 0 ∧ ν 21 (a / 64) = 3)
def IB (ν : zM) (pg : Nat) : Prop := I1 ν pg ∧ I2 ν pg ∧ I3 ν ∧ I4 ν ∧ I5 ν ∧ I6 ν
/-- quanta and trigger -/
def IQ (ν : zM) (pg : Nat) : Prop := ∃ q cq tr : Nat, ν 19 1 = nI q ∧ 1 ≤ q ∧ q ≤ 200 ∧ ν 19 2 = nI cq ∧ 1 ≤ cq ∧ cq ≤ 200 ∧ ν 19 3 = nI tr ∧ tr ≤ pg
/-- the pile -/
def IP (ν : zM) : Prop := ∃ n : Nat, ν 19 12 = nI n ∧ n ≤ 1024 ∧ (∀ i, i < n → ∃ a, ν 27 i = nI a ∧ ob ν a ∧ ν 23 a = 1) ∧ (∀ i j, i < n → j < n → ν 27 i = ν 27 j → i = j) ∧ (ν 19 13 = 0 ∨ ν 19 13 = 3 → n = 0)
/-- the first page from p on, of n, that has a class -/
def nbp (c : Nat → Int32) : Nat → Nat → Option Nat
  | _, 0 => none
  | p, n + 1 => if c p = -1 then nbp c (p + 1) n else some p
/-- the next block from place on -/
def nbk (ν : zM) (place pg : Nat) : Option Nat := (nbp (ν 21) (place / 64) (pg - place / 64)).map (fun p => max place (64 * p))
/-- the parts of a cycle -/
def IS (ν : zM) (pg : Nat) : Prop :=
  (ν 19 13 = 0 ∧ ν 19 15 = -1 ∧ (∀ a, a < 4096 → ν 23 a = 0)) ∨
  (ν 19 13 = 1 ∧ ν 19 15 = -1 ∧ ∃ r : Nat, r < 16 ∧ ν 19 14 = nI r) ∨
  (ν 19 13 = 2 ∧ ν 19 14 = nI 16 ∧ (ν 19 15 = -1 ∨ ∃ a h : Nat, ν 19 15 = nI a ∧ ob ν a ∧ ν 23 a = 1 ∧ ν 19 16 = nI h ∧ h ≤ ptn ν a)) ∨
  (ν 19 13 = 3 ∧ ν 19 14 = nI 16 ∧ ν 19 15 = -1 ∧ ∃ pl : Nat, ν 19 17 = nI pl ∧ pl ≤ 64 * pg ∧ (pl % 64 ≠ 0 → isCl (ν 21 (pl / 64)) ∧ pl % bs (ν 21 (pl / 64)) = 0) ∧ (∀ a, a < pl → ν 23 a = 0) ∧ nbk ν pl pg ≠ none)
/-- what may be come to, and what the collector must not lose -/
def clo (ν : zM) (S : Nat → Prop) : Prop := ∀ a, S a → ob ν a → ∀ i, 1 ≤ i → i ≤ ptn ν a → ν 20 (a + i) = 0 ∨ ∃ t : Nat, ν 20 (a + i) = nI (t + 1) ∧ S t ∧ t < 4096 ∧ (ν 22 a = 1 → ob ν t) ∧ (ν 22 a = 2 → ν 22 t = 3)
def seed (ν : zM) (t : Nat) : Prop :=
  (ν 19 13 = 1 ∧ ∃ r : Nat, r < 16 ∧ nN (ν 19 14) ≤ r ∧ ν 26 r = nI t) ∨
  (∃ k a i : Nat, k < nN (ν 19 12) ∧ a < 4096 ∧ ν 27 k = nI a ∧ 1 ≤ i ∧ i ≤ ptn ν a ∧ ν 20 (a + i) = nI (t + 1)) ∨
  (∃ a i : Nat, a < 4096 ∧ ν 19 15 = nI a ∧ nN (ν 19 16) < i ∧ i ≤ ptn ν a ∧ ν 20 (a + i) = nI (t + 1))
def prot (ν : zM) (x : Nat) : Prop := ∀ Y : Nat → Prop, (∀ t, t < 4096 → seed ν t → Y t) → (∀ a i t, t < 4096 → Y a → ν 23 a = 0 → ob ν a → 1 ≤ i → i ≤ ptn ν a → ν 20 (a + i) = nI (t + 1) → Y t) → Y x
def IG (ν : zM) (S : Nat → Prop) : Prop :=
  (∀ a, S a → a < 4096 ∧ ν 22 a ≠ 0) ∧ (∀ r, r < 16 → ν 26 r = -1 ∨ ∃ t : Nat, ν 26 r = nI t ∧ S t ∧ ob ν t) ∧ clo ν S ∧
  (∀ k a : Nat, k < nN (ν 19 12) → ν 27 k = nI a → a < 4096 → S a) ∧ (∀ a : Nat, a < 4096 → ν 19 15 = nI a → S a) ∧
  (ν 19 13 = 1 ∨ ν 19 13 = 2 → ∀ a, S a → ν 23 a = 1 ∨ prot ν a) ∧
  (ν 19 13 = 3 → ∀ a pl : Nat, S a → ν 19 17 = nI pl → pl ≤ 4096 → pl ≤ a → ν 23 a = 1)
/-- the program's own: what it can come to, with whole arrays; e: a root that is left out -/
def IT (ν : zM) (S T : Nat → Prop) (e : Nat) : Prop :=
  (∀ a, T a → S a) ∧ (∀ r, r < 16 → r ≠ e → ν 26 r = -1 ∨ ∃ t : Nat, ν 26 r = nI t ∧ T t ∧ t < 4096) ∧
  (∀ a, T a → ob ν a → ∀ i, 1 ≤ i → i ≤ ptn ν a → (ν 20 (a + i) = 0 ∧ ν 22 a ≠ 2) ∨ ∃ t : Nat, ν 20 (a + i) = nI (t + 1) ∧ T t ∧ t < 4096)
/-- blocks -/
def RB (ν μ : zM) (pg : Nat) : Prop := μ 2 7 = nI pg ∧ μ 2 10 = ν 19 20 ∧ (∀ a, a < 4096 → μ 3 a = ν 20 a) ∧ (∀ s, s < 1024 → μ 4 s = ν 22 (4 * s)) ∧ (∀ s, s < 1024 → μ 5 s = ν 23 (4 * s)) ∧
  (∀ s, s < 1024 → ν 22 (4 * s) ≠ 0 → μ 6 s = ν 24 (4 * s)) ∧ (∀ s, s < 1024 → ν 22 (4 * s) = 1 ∨ ν 22 (4 * s) = 2 → μ 7 s = ν 25 (4 * s)) ∧ (∀ p, p < 64 → μ 8 p = ν 21 p) ∧ (∀ p, p < 64 → μ 9 p = nI (hd ν p)) ∧ μ 2 8 = nI (fr ν pg) ∧ μ 2 9 = nI (ha ν pg)
def RP (ν μ : zM) : Prop := μ 12 1 = ν 19 12 ∧ ∀ i, i < nN (ν 19 12) → μ 13 i = ν 27 i
def RO (ν μ : zM) : Prop := ∀ r, r < 16 → μ 14 r = ν 26 r
/-- the collector, but its credit -/
def RS (ν μ : zM) : Prop := μ 1 4 = ν 19 1 ∧ μ 1 5 = ν 19 2 ∧ μ 1 6 = ν 19 3 ∧ μ 1 7 = ν 19 13 ∧ μ 1 10 = ν 19 15 ∧ μ 1 13 = ν 19 19 ∧ μ 0 5 = ν 19 21 ∧
  (ν 19 13 = 0 → μ 1 8 = 0 ∧ μ 1 9 = 0) ∧ (ν 19 13 ≠ 0 → μ 1 9 = ν 19 14) ∧ (ν 19 15 ≠ -1 → μ 1 11 = ν 19 16) ∧ (ν 19 13 = 3 → μ 1 12 = ν 19 17) ∧ (ν 19 13 ≠ 3 → μ 1 12 = 0)
theorem bs_v {x : Int32} (h : isCl x) : (x = 0 ∧ bs x = 4) ∨ (x = 1 ∧ bs x = 8) ∨ (x = 2 ∧ bs x = 16) ∨ (x = 3 ∧ bs x = 32) := by
  rcases h with rfl | rfl | rfl | rfl <;> decide
theorem isCl_n {x : Int32} (h : isCl x) : x ≠ -1 := by
  rcases h with rfl | rfl | rfl | rfl <;> decide
/-- a block that holds something: its address -/
theorem I3.al {ν : zM} {pg a : Nat} (h1 : I1 ν pg) (h2 : I2 ν pg) (h3 : I3 ν) (ha : a < 4096) (hk : ν 22 a ≠ 0) : a % 4 = 0 ∧ a < 64 * pg ∧ isCl (ν 21 (a / 64)) := by
  rcases h3 a ha with h | ⟨-, hc, hm⟩
  · exact absurd h hk
  · refine ⟨?_, ?_, hc⟩
    · rcases bs_v hc with ⟨-, e⟩ | ⟨-, e⟩ | ⟨-, e⟩ | ⟨-, e⟩ <;> rw [e] at hm <;> omega
    · rcases h2 (a / 64) (by omega) with h | ⟨-, h⟩
      · exact absurd h (isCl_n hc)
      · omega
theorem ob.nz {ν : zM} {a : Nat} (h : ob ν a) : ν 22 a ≠ 0 := by
  rcases h.2 with e | e <;> rw [e] <;> decide
