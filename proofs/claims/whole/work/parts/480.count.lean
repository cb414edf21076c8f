/-! counts -/
theorem ct_same {f g : Nat → Bool} {lo : Nat} : ∀ n, (∀ i, lo ≤ i → i < lo + n → f i = g i) → ct f lo n = ct g lo n
  | 0, _ => rfl
  | n + 1, h => by
    unfold ct
    rw [ct_same n (fun i h1 h2 => h i h1 (by omega)), h (lo + n) (by omega) (by omega)]
theorem ct_one {f g : Nat → Bool} {lo x : Nat} : ∀ n, (∀ i, lo ≤ i → i < lo + n → i ≠ x → f i = g i) → f x = true → g x = false → lo ≤ x → x < lo + n → ct f lo n = ct g lo n + 1
  | 0, _, _, _, h1, h2 => by omega
  | n + 1, h, hf, hg, h1, h2 => by
    unfold ct
    by_cases e : x = lo + n
    · rw [ct_same n (fun i a b => h i a (by omega) (by omega)), ← e, if_pos hf, if_neg (by rw [hg]; decide)]
    · rw [ct_one n (fun i a b c => h i a (by omega) c) hf hg h1 (by omega), h (lo + n) (by omega) (by omega) (fun q => e q.symm)]
      omega
theorem ct_0 {f : Nat → Bool} {lo : Nat} : ∀ n, ct f lo n = 0 → ∀ i, lo ≤ i → i < lo + n → f i = false
  | 0, _, i, h1, h2 => by omega
  | n + 1, h, i, h1, h2 => by
    unfold ct at h
    by_cases e : i = lo + n
    · cases q : f i with
      | false => rfl
      | true =>
        rw [← e, if_pos q] at h
        omega
    · exact ct_0 n (by omega) i h1 (by omega)
theorem ct_z {f : Nat → Bool} {lo : Nat} : ∀ n, (∀ i, lo ≤ i → i < lo + n → f i = false) → ct f lo n = 0
  | 0, _ => rfl
  | n + 1, h => by
    unfold ct
    rw [ct_z n (fun i a b => h i a (by omega)), if_neg (by rw [h (lo + n) (by omega) (by omega)]; decide)]
theorem ct_add {f : Nat → Bool} {lo m : Nat} : ∀ n, ct f lo (m + n) = ct f lo m + ct f (lo + m) n
  | 0 => rfl
  | n + 1 => by
    show ct f lo (m + n) + (if f (lo + (m + n)) = true then 1 else 0) = ct f lo m + (ct f (lo + m) n + (if f (lo + m + n) = true then 1 else 0))
    rw [ct_add n, show lo + (m + n) = lo + m + n by omega]
    omega
theorem hd_le {ν : zM} {p : Nat} : hd ν p ≤ 64 := ct_le 64
theorem ha_le {ν : zM} {pg : Nat} : ha ν pg ≤ 64 * pg := ct_le _
theorem fr_le {ν : zM} {pg : Nat} : fr ν pg ≤ pg := ct_le _
/-- a block is free again: the counts -/
theorem up_k {f : Nat → Int32} {b i : Nat} {x : Int32} (h : i ≠ b) : kb (f i) = kb (upd f b x i) := by rw [up_n h]
theorem hd_free {ν : zM} {b : Nat} (hk : ν 22 b ≠ 0) (p : Nat) : hd ν p = hd (zp ν 22 b 0) p + if p = b / 64 then 1 else 0 := by
  unfold hd
  by_cases e : p = b / 64
  · rw [if_pos e]
    refine ct_one (f := fun a => kb (ν 22 a)) (g := fun a => kb (upd (ν 22) b 0 a)) 64 (x := b) (fun i _ _ h => up_k h) (kb_t hk) (kb_f up_s) (by omega) (by omega)
  · rw [if_neg e]
    refine ct_same (f := fun a => kb (ν 22 a)) (g := fun a => kb (upd (ν 22) b 0 a)) 64 (fun i h1 h2 => up_k (by omega))
theorem ha_free {ν : zM} {b pg : Nat} (hk : ν 22 b ≠ 0) (hb : b < 64 * pg) : ha ν pg = ha (zp ν 22 b 0) pg + 1 :=
  ct_one (f := fun a => kb (ν 22 a)) (g := fun a => kb (upd (ν 22) b 0 a)) _ (x := b) (fun i _ _ h => up_k h) (kb_t hk) (kb_f up_s) (by omega) (by omega)
theorem hd_take {ν : zM} {b : Nat} {x : Int32} (hk : ν 22 b = 0) (hx : x ≠ 0) (p : Nat) : hd (zp ν 22 b x) p = hd ν p + if p = b / 64 then 1 else 0 := by
  unfold hd
  by_cases e : p = b / 64
  · rw [if_pos e]
    refine ct_one (f := fun a => kb (upd (ν 22) b x a)) (g := fun a => kb (ν 22 a)) 64 (x := b) (fun i _ _ h => (up_k h).symm) (kb_t (by rw [up_s]; exact hx)) (kb_f hk) (by omega) (by omega)
  · rw [if_neg e]
    refine ct_same (f := fun a => kb (upd (ν 22) b x a)) (g := fun a => kb (ν 22 a)) 64 (fun i h1 h2 => (up_k (by omega)).symm)
theorem ha_take {ν : zM} {b pg : Nat} {x : Int32} (hk : ν 22 b = 0) (hx : x ≠ 0) (hb : b < 64 * pg) : ha (zp ν 22 b x) pg = ha ν pg + 1 :=
  ct_one (f := fun a => kb (upd (ν 22) b x a)) (g := fun a => kb (ν 22 a)) _ (x := b) (fun i _ _ h => (up_k h).symm) (kb_t (by rw [up_s]; exact hx)) (kb_f hk) (by omega) (by omega)
theorem fr_close {ν : zM} {p pg : Nat} (hk : ν 21 p ≠ -1) (hb : p < pg) : fr (zp ν 21 p (-1)) pg = fr ν pg + 1 :=
  ct_one (f := fun a => cb (upd (ν 21) p (-1) a)) (g := fun a => cb (ν 21 a)) _ (x := p) (fun i _ _ h => by rw [up_n h]) (cb_t up_s) (cb_f hk) (by omega) (by omega)
theorem fr_open {ν : zM} {p pg : Nat} {x : Int32} (hk : ν 21 p = -1) (hx : x ≠ -1) (hb : p < pg) : fr ν pg = fr (zp ν 21 p x) pg + 1 :=
  ct_one (f := fun a => cb (ν 21 a)) (g := fun a => cb (upd (ν 21) p x a)) _ (x := p) (fun i _ _ h => by rw [up_n h]) (cb_t hk) (cb_f (by rw [up_s]; exact hx)) (by omega) (by omega)
/-- words of a block are 0 -/
def wz (f : Nat → Int32) (b : Nat) : Nat → (Nat → Int32)
  | 0 => f
  | k + 1 => upd (wz f b k) (b + k) 0
theorem wz_in {f : Nat → Int32} {b : Nat} : ∀ (k w : Nat), b ≤ w → w < b + k → wz f b k w = 0
  | 0, w, h1, h2 => by omega
  | k + 1, w, h1, h2 => by
    unfold wz
    by_cases e : w = b + k
    · rw [e]; exact up_s
    · rw [up_n e]; exact wz_in k w h1 (by omega)
theorem wz_out {f : Nat → Int32} {b : Nat} : ∀ (k w : Nat), (w < b ∨ b + k ≤ w) → wz f b k w = f w
  | 0, w, h => rfl
  | k + 1, w, h => by
    unfold wz
    rw [up_n (by omega)]; exact wz_out k w (by omega)
theorem zs_zs {μ : zM} {k : Nat} {f g : Nat → Int32} : zs (zs μ k f) k g = zs μ k g := by
  funext i
  by_cases e : i = k
  · rw [e, zs_s, zs_s]
  · rw [zs_n e, zs_n e, zs_n e]
theorem zs_id {μ : zM} {k : Nat} : zs μ k (μ k) = μ := by
  funext i
  by_cases e : i = k
  · rw [e, zs_s]
  · rw [zs_n e]
/-- the model counts the blocks of a page -/
theorem m_holdL {ν : zM} {p : Nat} {K : Int32 → zM → Prop} (hp : p < 64) (k : K (nI (hd ν p)) ν) : ∀ (m j : Nat), j + m = 64 → ∃ n : Nat, F_Mo_holding_7 K n (nI p) (nI (ct (fun a => kb (ν 22 a)) (64 * p) j)) (nI (64 * p + j)) ν
  | 0, j, h => ⟨1, by
    have : j = 64 := by omega
    subst this
    refine br_t ?_ k
    rw [show (1 : Int32) = nI 1 from rfl, nI_add, nI_64m]; exact nI_le (by omega) (by omega)⟩
  | m + 1, j, h => by
    obtain ⟨n, hn⟩ := m_holdL hp k m (j + 1) (by omega)
    have hle := ct_le (f := fun a => kb (ν 22 a)) (lo := 64 * p) j
    refine ⟨n + 1, ?_⟩
    refine br_f (by rw [show (1 : Int32) = nI 1 from rfl, nI_add, nI_64m]; exact nI_ge (by omega) (by omega)) ⟨vp_in_nI (by omega) (by decide), ?_⟩
    rw [nI_clamp (by omega)]
    have hs : ct (fun a => kb (ν 22 a)) (64 * p) (j + 1) = ct (fun a => kb (ν 22 a)) (64 * p) j + if kb (ν 22 (64 * p + j)) = true then 1 else 0 := rfl
    refine ⟨fun e x5 e5 x6 e6 => ?_, fun e x7 e7 x8 e8 => ?_⟩
    · rw [if_neg (by rw [kb_f e]; decide)] at hs
      rw [show (0 : Int32) = nI 0 from rfl, nI_add, ← hs] at e5
      rw [nI_1, show 64 * p + j + 1 = 64 * p + (j + 1) by omega] at e6
      subst e5 e6
      exact hn
    · rw [if_pos (kb_t e)] at hs
      rw [show (1 : Int32) = nI 1 from rfl, nI_add, ← hs] at e7
      rw [nI_1, show 64 * p + j + 1 = 64 * p + (j + 1) by omega] at e8
      subst e7 e8
      exact hn
theorem m_hold {ν : zM} {p : Nat} {K : Int32 → zM → Prop} (hp : p < 64) (k : K (nI (hd ν p)) ν) : f_Mo_holding ν (nI p) K := by
  unfold f_Mo_holding
  intro x1 e1
  rw [nI_64m] at e1
  subst e1
  exact m_holdL hp k 64 0 (by omega)
