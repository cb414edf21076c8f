/-! begin: all is cleared -/
theorem fl14L {K : zM → Prop} {μ : zM} (k : ∀ f : Nat → Int32, (∀ s, s < 16 → f s = (-1)) → K (zs μ 14 f)) : ∀ (m j : Nat) (f : Nat → Int32), j + m = 16 → (∀ s, s < j → f s = (-1)) → F_Ar_fillI_14_5 K (m + 1) (-1) (nI j) (16 : Int32) (zs μ 14 f)
  | 0, j, f, h, hf => by
    have : j = 16 := by omega
    subst this
    exact br_t (nI_le (a := 16) (b := 16) (by omega) (by decide)) (k f hf)
  | m + 1, j, f, h, hf => by
    refine br_f (nI_ge (b := 16) (by omega) (by decide)) ⟨vp_in_nI (by omega) (by decide), ?_⟩
    rw [nI_clamp (by omega)]
    intro μ3 e3 x4 e4
    rw [nI_1] at e4
    have e : μ3 = zs μ 14 (upd f j (-1)) := by
      rw [e3]
      show zs (zs μ 14 f) 14 (upd ((zs μ 14 f) 14) j (-1)) = _
      rw [zs_zs, zs_s]
    subst e4
    rw [e]
    refine fl14L k m (j + 1) (upd f j (-1)) (by omega) (fun s hs => ?_)
    by_cases c : s = j
    · rw [c, up_s]
    · rw [up_n c]; exact hf s (by omega)
theorem fl14 {K : zM → Prop} {μ : zM} (k : ∀ f : Nat → Int32, (∀ s, s < 16 → f s = (-1)) → K (zs μ 14 f)) : f_Ar_fillI_14 μ (-1) K := by
  have := fl14L (μ := μ) k 16 0 (μ 14) (by omega) (fun s hs => by omega)
  rw [zs_id] at this
  exact ⟨16 + 1, this⟩
theorem fl3L {K : zM → Prop} {μ : zM} (k : ∀ f : Nat → Int32, (∀ s, s < 4096 → f s = 0) → K (zs μ 3 f)) : ∀ (m j : Nat) (f : Nat → Int32), j + m = 4096 → (∀ s, s < j → f s = 0) → F_Ar_fillI_3_5 K (m + 1) 0 (nI j) (4096 : Int32) (zs μ 3 f)
  | 0, j, f, h, hf => by
    have : j = 4096 := by omega
    subst this
    exact br_t (nI_le (a := 4096) (b := 4096) (by omega) (by decide)) (k f hf)
  | m + 1, j, f, h, hf => by
    refine br_f (nI_ge (b := 4096) (by omega) (by decide)) ⟨vp_in_nI (by omega) (by decide), ?_⟩
    rw [nI_clamp (by omega)]
    intro μ3 e3 x4 e4
    rw [nI_1] at e4
    have e : μ3 = zs μ 3 (upd f j 0) := by
      rw [e3]
      show zs (zs μ 3 f) 3 (upd ((zs μ 3 f) 3) j 0) = _
      rw [zs_zs, zs_s]
    subst e4
    rw [e]
    refine fl3L k m (j + 1) (upd f j 0) (by omega) (fun s hs => ?_)
    by_cases c : s = j
    · rw [c, up_s]
    · rw [up_n c]; exact hf s (by omega)
theorem fl3 {K : zM → Prop} {μ : zM} (k : ∀ f : Nat → Int32, (∀ s, s < 4096 → f s = 0) → K (zs μ 3 f)) : f_Ar_fillI_3 μ 0 K := by
  have := fl3L (μ := μ) k 4096 0 (μ 3) (by omega) (fun s hs => by omega)
  rw [zs_id] at this
  exact ⟨4096 + 1, this⟩
theorem fl4L {K : zM → Prop} {μ : zM} (k : ∀ f : Nat → Int32, (∀ s, s < 1024 → f s = 0) → K (zs μ 4 f)) : ∀ (m j : Nat) (f : Nat → Int32), j + m = 1024 → (∀ s, s < j → f s = 0) → F_Ar_fillB_4_5 K (m + 1) 0 (nI j) (1024 : Int32) (zs μ 4 f)
  | 0, j, f, h, hf => by
    have : j = 1024 := by omega
    subst this
    exact br_t (nI_le (a := 1024) (b := 1024) (by omega) (by decide)) (k f hf)
  | m + 1, j, f, h, hf => by
    refine br_f (nI_ge (b := 1024) (by omega) (by decide)) ⟨vp_in_nI (by omega) (by decide), ?_⟩
    rw [nI_clamp (by omega), nb0]
    intro μ3 e3 x4 e4
    rw [nI_1] at e4
    have e : μ3 = zs μ 4 (upd f j 0) := by
      rw [e3]
      show zs (zs μ 4 f) 4 (upd ((zs μ 4 f) 4) j 0) = _
      rw [zs_zs, zs_s]
    subst e4
    rw [e]
    refine fl4L k m (j + 1) (upd f j 0) (by omega) (fun s hs => ?_)
    by_cases c : s = j
    · rw [c, up_s]
    · rw [up_n c]; exact hf s (by omega)
theorem fl4 {K : zM → Prop} {μ : zM} (k : ∀ f : Nat → Int32, (∀ s, s < 1024 → f s = 0) → K (zs μ 4 f)) : f_Ar_fillB_4 μ 0 K := by
  have := fl4L (μ := μ) k 1024 0 (μ 4) (by omega) (fun s hs => by omega)
  rw [zs_id] at this
  exact ⟨1024 + 1, this⟩
theorem fl5L {K : zM → Prop} {μ : zM} (k : ∀ f : Nat → Int32, (∀ s, s < 1024 → f s = 0) → K (zs μ 5 f)) : ∀ (m j : Nat) (f : Nat → Int32), j + m = 1024 → (∀ s, s < j → f s = 0) → F_Ar_fillB_5_5 K (m + 1) 0 (nI j) (1024 : Int32) (zs μ 5 f)
  | 0, j, f, h, hf => by
    have : j = 1024 := by omega
    subst this
    exact br_t (nI_le (a := 1024) (b := 1024) (by omega) (by decide)) (k f hf)
  | m + 1, j, f, h, hf => by
    refine br_f (nI_ge (b := 1024) (by omega) (by decide)) ⟨vp_in_nI (by omega) (by decide), ?_⟩
    rw [nI_clamp (by omega), nb0]
    intro μ3 e3 x4 e4
    rw [nI_1] at e4
    have e : μ3 = zs μ 5 (upd f j 0) := by
      rw [e3]
      show zs (zs μ 5 f) 5 (upd ((zs μ 5 f) 5) j 0) = _
      rw [zs_zs, zs_s]
    subst e4
    rw [e]
    refine fl5L k m (j + 1) (upd f j 0) (by omega) (fun s hs => ?_)
    by_cases c : s = j
    · rw [c, up_s]
    · rw [up_n c]; exact hf s (by omega)
theorem fl5 {K : zM → Prop} {μ : zM} (k : ∀ f : Nat → Int32, (∀ s, s < 1024 → f s = 0) → K (zs μ 5 f)) : f_Ar_fillB_5 μ 0 K := by
  have := fl5L (μ := μ) k 1024 0 (μ 5) (by omega) (fun s hs => by omega)
  rw [zs_id] at this
  exact ⟨1024 + 1, this⟩
theorem fl8L {K : zM → Prop} {μ : zM} (k : ∀ f : Nat → Int32, (∀ s, s < 64 → f s = (-1)) → K (zs μ 8 f)) : ∀ (m j : Nat) (f : Nat → Int32), j + m = 64 → (∀ s, s < j → f s = (-1)) → F_Ar_fillI_8_5 K (m + 1) (-1) (nI j) (64 : Int32) (zs μ 8 f)
  | 0, j, f, h, hf => by
    have : j = 64 := by omega
    subst this
    exact br_t (nI_le (a := 64) (b := 64) (by omega) (by decide)) (k f hf)
  | m + 1, j, f, h, hf => by
    refine br_f (nI_ge (b := 64) (by omega) (by decide)) ⟨vp_in_nI (by omega) (by decide), ?_⟩
    rw [nI_clamp (by omega)]
    intro μ3 e3 x4 e4
    rw [nI_1] at e4
    have e : μ3 = zs μ 8 (upd f j (-1)) := by
      rw [e3]
      show zs (zs μ 8 f) 8 (upd ((zs μ 8 f) 8) j (-1)) = _
      rw [zs_zs, zs_s]
    subst e4
    rw [e]
    refine fl8L k m (j + 1) (upd f j (-1)) (by omega) (fun s hs => ?_)
    by_cases c : s = j
    · rw [c, up_s]
    · rw [up_n c]; exact hf s (by omega)
theorem fl8 {K : zM → Prop} {μ : zM} (k : ∀ f : Nat → Int32, (∀ s, s < 64 → f s = (-1)) → K (zs μ 8 f)) : f_Ar_fillI_8 μ (-1) K := by
  have := fl8L (μ := μ) k 64 0 (μ 8) (by omega) (fun s hs => by omega)
  rw [zs_id] at this
  exact ⟨64 + 1, this⟩
theorem fl9L {K : zM → Prop} {μ : zM} (k : ∀ f : Nat → Int32, (∀ s, s < 64 → f s = 0) → K (zs μ 9 f)) : ∀ (m j : Nat) (f : Nat → Int32), j + m = 64 → (∀ s, s < j → f s = 0) → F_Ar_fillI_9_5 K (m + 1) 0 (nI j) (64 : Int32) (zs μ 9 f)
  | 0, j, f, h, hf => by
    have : j = 64 := by omega
    subst this
    exact br_t (nI_le (a := 64) (b := 64) (by omega) (by decide)) (k f hf)
  | m + 1, j, f, h, hf => by
    refine br_f (nI_ge (b := 64) (by omega) (by decide)) ⟨vp_in_nI (by omega) (by decide), ?_⟩
    rw [nI_clamp (by omega)]
    intro μ3 e3 x4 e4
    rw [nI_1] at e4
    have e : μ3 = zs μ 9 (upd f j 0) := by
      rw [e3]
      show zs (zs μ 9 f) 9 (upd ((zs μ 9 f) 9) j 0) = _
      rw [zs_zs, zs_s]
    subst e4
    rw [e]
    refine fl9L k m (j + 1) (upd f j 0) (by omega) (fun s hs => ?_)
    by_cases c : s = j
    · rw [c, up_s]
    · rw [up_n c]; exact hf s (by omega)
theorem fl9 {K : zM → Prop} {μ : zM} (k : ∀ f : Nat → Int32, (∀ s, s < 64 → f s = 0) → K (zs μ 9 f)) : f_Ar_fillI_9 μ 0 K := by
  have := fl9L (μ := μ) k 64 0 (μ 9) (by omega) (fun s hs => by omega)
  rw [zs_id] at this
  exact ⟨64 + 1, this⟩
def KB (μ μ' : zM) (pg q cq tr : Nat) : Prop := μ' 11 = μ 11 ∧ (μ' 0 5 = 0 ∧ μ' 1 4 = nI q ∧ μ' 1 5 = nI cq ∧ μ' 1 6 = nI tr ∧ μ' 1 7 = 0 ∧ μ' 1 8 = 0 ∧ μ' 1 9 = 0 ∧ μ' 1 10 = -1 ∧ μ' 1 12 = 0 ∧ μ' 1 13 = 0) ∧ (μ' 2 7 = nI pg ∧ μ' 2 8 = nI pg ∧ μ' 2 9 = 0 ∧ μ' 2 10 = 0) ∧ (∀ a, a < 4096 → μ' 3 a = 0) ∧ (∀ s, s < 1024 → μ' 4 s = 0) ∧ (∀ s, s < 1024 → μ' 5 s = 0) ∧ (∀ p, p < 64 → μ' 8 p = -1) ∧ (∀ p, p < 64 → μ' 9 p = 0) ∧ (μ' 10 1 = 0 ∧ μ' 10 2 = 0 ∧ μ' 10 3 = 0 ∧ μ' 10 4 = 0) ∧ μ' 12 1 = 0 ∧ (∀ r, r < 16 → μ' 14 r = -1)
theorem k_setAll {μ : zM} {pg q cq tr : Nat} {K : zM → Prop} (hp : pg ≤ 64) (k : ∀ μ' : zM, KB μ μ' pg q cq tr → K μ') : f_Bh_setAll μ (nI pg) (nI q) (nI cq) (nI tr) K := by
  unfold f_Bh_setAll
  refine fl14 (fun f14 h14 => nm_e ?_)
  unfold f_Bk_clearAll
  refine fl3 (fun f3 h3 => fl4 (fun f4 h4 => fl5 (fun f5 h5 => fl8 (fun f8 h8 => fl9 (fun f9 h9 => ?_)))))
  unfold f_Ma_min
  refine br_f (by rw [show (64 : Int32) = nI 64 from rfl, nI_ltI (by decide) (by omega)]; omega) ?_
  refine nm_e (nm_e (nm_e (nm_e ?_)))
  unfold f_Ck_clearAll
  refine nm_e (nm_e (nm_e (nm_e ?_)))
  unfold f_Co_clearAll
  refine nm_e (nm_e (nm_e (nm_e ?_)))
  unfold f_Pi_clearAll_12
  refine nm_e ?_
  unfold f_Co_rest
  refine nm_e (nm_e (nm_e (nm_e (nm_e (nm_e (k _ ?_))))))
  exact ⟨rfl, ⟨rfl, rfl, rfl, rfl, rfl, rfl, rfl, rfl, rfl, rfl⟩, ⟨rfl, rfl, rfl, rfl⟩, h3, h4, h5, h8, h9, ⟨rfl, rfl, rfl, rfl⟩, rfl, h14⟩
def MB (ν ν' : zM) (pg q cq tr : Nat) : Prop := ν' 28 = ν 28 ∧ (ν' 19 0 = nI pg ∧ ν' 19 1 = nI q ∧ ν' 19 2 = nI cq ∧ ν' 19 3 = nI tr) ∧ (∀ a, a < 4096 → ν' 20 a = 0 ∧ ν' 22 a = 0 ∧ ν' 23 a = 0) ∧ (∀ p, p < 64 → ν' 21 p = -1) ∧ (∀ r, r < 16 → ν' 26 r = -1) ∧ (ν' 19 12 = 0 ∧ ν' 19 13 = 0 ∧ ν' 19 15 = -1 ∧ ν' 19 19 = 0 ∧ ν' 19 20 = 0 ∧ ν' 19 21 = 0 ∧ ν' 19 22 = 0 ∧ ν' 19 23 = 0)
section BEGIN
variable {ν : zM} {K : Int32 → zM → Prop}
theorem m_b26 (k : ∀ ν' : zM, (∀ q, q ≠ 26 → ν' q = ν q) → (∀ r, r < 16 → ν' 26 r = -1) → K 1 (zp (zp (zp (zp (zp (zp (zp (zp (zp (zp ν' 19 12 0) 19 13 0) 19 15 (-1)) 19 17 0) 19 18 0) 19 19 0) 19 20 0) 19 21 0) 19 22 0) 19 23 0)) : ∀ (m j : Nat) (ν' : zM), j + m = 16 → (∀ q, q ≠ 26 → ν' q = ν q) → (∀ r, r < j → ν' 26 r = -1) → F_Mo_begin_137 K (m + 1) (nI j) ν'
  | 0, j, ν', h, hq, hr => by
    have : j = 16 := by omega
    subst this
    exact br_t (nI_le (a := 16) (b := 16) (by omega) (by decide)) (nm_e (nm_e (nm_e (nm_e (nm_e (nm_e (nm_e (nm_e (nm_e (nm_e (k ν' hq hr)))))))))))
  | m + 1, j, ν', h, hq, hr => by
    refine br_f (nI_ge (b := 16) (by omega) (by decide)) ⟨vp_in_nI (by omega) (by decide), ?_⟩
    rw [nI_clamp (by omega)]
    intro μ3 e3 x4 e4
    rw [nI_1] at e4
    subst e3 e4
    refine m_b26 k m (j + 1) _ (by omega) (fun q q1 => by rw [zp_n q1]; exact hq q q1) (fun r hr' => ?_)
    show upd (ν' 26) j (-1) r = -1
    by_cases c : r = j
    · rw [c, up_s]
    · rw [up_n c]; exact hr r (by omega)
theorem m_b21 (k : ∀ ν' : zM, (∀ q, q ≠ 21 → ν' q = ν q) → (∀ r, r < 64 → ν' 21 r = -1) → ∃ n : Nat, F_Mo_begin_137 K n 0 ν') : ∀ (m j : Nat) (ν' : zM), j + m = 64 → (∀ q, q ≠ 21 → ν' q = ν q) → (∀ r, r < j → ν' 21 r = -1) → F_Mo_begin_113 K (m + 1) (nI j) ν'
  | 0, j, ν', h, hq, hr => by
    have : j = 64 := by omega
    subst this
    exact br_t (nI_le (a := 64) (b := 64) (by omega) (by decide)) (k ν' hq hr)
  | m + 1, j, ν', h, hq, hr => by
    refine br_f (nI_ge (b := 64) (by omega) (by decide)) ⟨vp_in_nI (by omega) (by decide), ?_⟩
    rw [nI_clamp (by omega)]
    intro μ3 e3 x4 e4
    rw [nI_1] at e4
    subst e3 e4
    refine m_b21 k m (j + 1) _ (by omega) (fun q q1 => by rw [zp_n q1]; exact hq q q1) (fun r hr' => ?_)
    show upd (ν' 21) j (-1) r = -1
    by_cases c : r = j
    · rw [c, up_s]
    · rw [up_n c]; exact hr r (by omega)
theorem m_b20 (k : ∀ ν' : zM, (∀ q, q ≠ 20 → q ≠ 22 → q ≠ 23 → ν' q = ν q) → (∀ a, a < 4096 → ν' 20 a = 0 ∧ ν' 22 a = 0 ∧ ν' 23 a = 0) → ∃ n : Nat, F_Mo_begin_113 K n 0 ν') : ∀ (m j : Nat) (ν' : zM), j + m = 4096 → (∀ q, q ≠ 20 → q ≠ 22 → q ≠ 23 → ν' q = ν q) → (∀ a, a < j → ν' 20 a = 0 ∧ ν' 22 a = 0 ∧ ν' 23 a = 0) → F_Mo_begin_72 K (m + 1) (nI j) ν'
  | 0, j, ν', h, hq, hr => by
    have : j = 4096 := by omega
    subst this
    exact br_t (nI_le (a := 4096) (b := 4096) (by omega) (by decide)) (k ν' hq hr)
  | m + 1, j, ν', h, hq, hr => by
    have hv : vp_in (nI j) 4096 := vp_in_nI (by omega) (by decide)
    refine br_f (nI_ge (b := 4096) (by omega) (by decide)) ⟨hv, ?_⟩
    rw [nI_clamp (by omega), nz0]
    intro μ3 e3
    subst e3
    refine ⟨hv, nm_e ⟨hv, nm_e ?_⟩⟩
    intro x4 e4
    rw [nI_1] at e4
    subst e4
    refine m_b20 k m (j + 1) _ (by omega) (fun q q1 q2 q3 => by rw [zp_n q3, zp_n q2, zp_n q1]; exact hq q q1 q2 q3) (fun a ha => ?_)
    show upd (ν' 20) j 0 a = 0 ∧ upd (ν' 22) j 0 a = 0 ∧ upd (ν' 23) j 0 a = 0
    by_cases c : a = j
    · rw [c, up_s, up_s, up_s]; exact ⟨rfl, rfl, rfl⟩
    · rw [up_n c, up_n c, up_n c]; exact hr a (by omega)
theorem m_beg {pg q cq tr : Nat} (p1 : 4 ≤ pg ∧ pg ≤ 64) (p2 : 1 ≤ q ∧ q ≤ 200) (p3 : 1 ≤ cq ∧ cq ≤ 200) (p4 : tr ≤ pg) (k : ∀ ν' : zM, MB ν ν' pg q cq tr → K 1 ν') : f_Mo_begin ν (nI pg) (nI q) (nI cq) (nI tr) K := by
  unfold f_Mo_begin
  have l1 : ∀ x y : Nat, x < 1000 → y < 1000 → x ≤ y → ¬ nI y < nI x := fun x y hx hy h => by rw [nI_ltI (by omega) (by omega)]; omega
  refine br_f (l1 4 pg (by omega) (by omega) (by omega)) (br_f (l1 pg 64 (by omega) (by omega) (by omega)) (br_f (l1 1 q (by omega) (by omega) (by omega)) (br_f (l1 q 200 (by omega) (by omega) (by omega)) (br_f (l1 1 cq (by omega) (by omega) (by omega)) (br_f (l1 cq 200 (by omega) (by omega) (by omega)) (br_f (nI_pos (by omega)) (br_t (nI_le p4 (by omega)) ?_)))))))
  refine nm_e (nm_e (nm_e (nm_e ⟨4097, ?_⟩)))
  refine m_b20 (fun ν1 a1 a2 => ⟨65, m_b21 (ν := ν1) (fun ν2 b1 b2 => ⟨17, m_b26 (ν := ν2) (fun ν3 c1 c2 => k _ ?_) 16 0 ν2 (by omega) (fun _ _ => rfl) (fun r hr => by omega)⟩) 64 0 ν1 (by omega) (fun _ _ => rfl) (fun r hr => by omega)⟩) 4096 0 _ (by omega) (fun _ _ _ _ => rfl) (fun r hr => by omega)
  have e19 : ν3 19 = (zp (zp (zp (zp ν 19 0 (nI pg)) 19 1 (nI q)) 19 2 (nI cq)) 19 3 (nI tr)) 19 := by rw [c1 19 (by decide), b1 19 (by decide), a1 19 (by decide) (by decide) (by decide)]
  refine ⟨?_, ⟨?_, ?_, ?_, ?_⟩, fun a ha => ?_, fun p hp => ?_, fun r hr => ?_, ⟨rfl, rfl, rfl, rfl, rfl, rfl, rfl, rfl⟩⟩
  · show ν3 28 = ν 28
    rw [c1 28 (by decide), b1 28 (by decide), a1 28 (by decide) (by decide) (by decide)]; rfl
  · show ν3 19 0 = _
    rw [e19]; rfl
  · show ν3 19 1 = _
    rw [e19]; rfl
  · show ν3 19 2 = _
    rw [e19]; rfl
  · show ν3 19 3 = _
    rw [e19]; rfl
  · show ν3 20 a = 0 ∧ ν3 22 a = 0 ∧ ν3 23 a = 0
    rw [c1 20 (by decide), c1 22 (by decide), c1 23 (by decide), b1 20 (by decide), b1 22 (by decide), b1 23 (by decide)]
    exact a2 a ha
  · show ν3 21 p = -1
    rw [c1 21 (by decide)]; exact b2 p hp
  · exact c2 r hr
end BEGIN
theorem ZZ_new {k : Nat} {ν ν' μ μ' : zM} {pg q cq tr : Nat} (hK : KB μ μ' pg q cq tr) (hM : MB ν ν' pg q cq tr) (hr : ∀ i, i < 2000 → μ 11 i = ν 28 i) (h01 : R01 ν) (p1 : 4 ≤ pg ∧ pg ≤ 64) (p2 : 1 ≤ q ∧ q ≤ 200) (p3 : 1 ≤ cq ∧ cq ≤ 200) (p4 : tr ≤ pg) : ZZ k ν' μ' := by
  obtain ⟨m28, ⟨m0, m1, m2, m3⟩, mz, m21, m26, ⟨m12, m13, m15, m19, m20, m21', m22, m23⟩⟩ := hM
  obtain ⟨k11, ⟨k05, k14, k15, k16, k17, k18, k19, k110, k112, k113⟩, ⟨k27, k28, k29, k210⟩, k3, k4, k5, k8, k9, ⟨k101, k102, k103, k104⟩, k12, k14r⟩ := hK
  have z20 : ∀ a, a < 4096 → ν' 20 a = 0 := fun a ha => (mz a ha).1
  have z22 : ∀ a, a < 4096 → ν' 22 a = 0 := fun a ha => (mz a ha).2.1
  have z23 : ∀ a, a < 4096 → ν' 23 a = 0 := fun a ha => (mz a ha).2.2
  have nN0 : nN (ν' 19 12) = 0 := by rw [m12]; decide
  have n1 : ¬ (0 : Int32) = 1 := by decide
  have n2 : ¬ (0 : Int32) = 2 := by decide
  have n3 : ¬ (0 : Int32) = 3 := by decide
  have hhd : ∀ p, p < 64 → hd ν' p = 0 := fun p hp => ct_z 64 (fun i i1 i2 => kb_f (z22 i (by omega)))
  have hfr : fr ν' pg = pg := ct_all (f := fun p => cb (ν' 21 p)) pg (fun i hi => cb_t (m21 _ (by omega)))
  have hha : ha ν' pg = 0 := ct_z _ (fun i i1 i2 => kb_f (z22 i (by omega)))
  refine ⟨pg, fun _ => False, fun _ => False, 0, 0, ⟨⟨⟨p1.1, p1.2, m0⟩, fun p hp => Or.inl (m21 p hp), fun a ha => Or.inl (z22 a ha), fun a ha => Or.inl (z23 a ha), fun w hw z => absurd (z20 w hw) z, fun a ha => ?_⟩, ⟨q, cq, tr, m1, p2.1, p2.2, m2, p3.1, p3.2, m3, p4⟩, ⟨0, m12, by omega, fun i hi => by omega, fun i j hi => by omega, fun _ => rfl⟩, Or.inl ⟨m13, m15, z23⟩, ⟨fun a h => h.elim, fun r hr => Or.inl (m26 r hr), fun a h => h.elim, fun k a hk => ?_, fun a ha q => ?_, fun q a h => h.elim, fun q a pl h => h.elim⟩, ⟨fun a h => h.elim, fun r hr _ => Or.inl (m26 r hr), fun a h => h.elim⟩⟩, ⟨⟨k27, ?_, fun a ha => ?_, fun s hs => ?_, fun s hs => ?_, fun s hs z => ?_, fun s hs z => ?_, fun p hp => ?_, fun p hp => ?_, ?_, ?_⟩, ⟨?_, fun i hi => ?_⟩, fun r hr => ?_, ⟨?_, ?_, ?_, ?_, ?_, ?_, ?_, fun _ => ⟨k18, k19⟩, fun z => absurd m13 z, fun z => absurd m15 z, fun z => ?_, fun _ => k112⟩, ⟨?_, ?_, fun i hi => ?_⟩, ?_⟩, fun z => absurd m13 z, ⟨m22, m23, by omega⟩, fun z => absurd m13 z, by omega, by omega, h01.eq m28⟩
  · rw [z22 a ha]
    exact ⟨fun z => absurd z n1, fun z => absurd z n2, fun z => absurd z n3⟩
  · rw [nN0] at hk; omega
  · rw [m15] at q; exact absurd q.symm (nI_m1 (by omega))
  · rw [k210, m20]
  · rw [k3 a ha, z20 a ha]
  · rw [k4 s hs, z22 _ (by omega)]
  · rw [k5 s hs, z23 _ (by omega)]
  · exact absurd (z22 _ (by omega)) z
  · rw [z22 _ (by omega)] at z
    exact z.elim (fun y => absurd y n1) (fun y => absurd y n2)
  · rw [k8 p hp, m21 p hp]
  · rw [k9 p hp, hhd p hp]; rfl
  · rw [k28, hfr]
  · rw [k29, hha]; rfl
  · rw [k12, m12]
  · rw [nN0] at hi; omega
  · rw [k14r r hr, m26 r hr]
  · rw [k14, m1]
  · rw [k15, m2]
  · rw [k16, m3]
  · rw [k17, m13]
  · rw [k110, m15]
  · rw [k113, m19]
  · rw [k05, m21']
  · rw [m13] at z; exact absurd z n3
  · rw [k103, m22]
  · rw [k104, m23]
  · rw [k11, m28]; exact hr i hi
  · rw [m22, m23]
    exact ⟨k102, Or.inl k101⟩
theorem p_begin {k : Nat} {ν μ : zM} (h : ZZ k ν μ) (a1 a2 a3 a4 : Int32) : PP k (f_Bh_begin μ a1 a2 a3 a4) (f_Mo_begin ν a1 a2 a3 a4) := by
  intro G kk
  have e0 : (0 : Int32).toInt = 0 := by decide
  have e1 : (1 : Int32).toInt = 1 := by decide
  have e4 : (4 : Int32).toInt = 4 := by decide
  have e64 : (64 : Int32).toInt = 64 := by decide
  have e200 : (200 : Int32).toInt = 200 := by decide
  have no : ∀ K : Int32 → zM → Prop, K 0 ν → ((a1.toInt < 4 ∨ 64 < a1.toInt) ∨ (a4.toInt < 0 ∨ a1.toInt < a4.toInt) ∨ (a2.toInt < 1 ∨ 200 < a2.toInt) ∨ (a3.toInt < 1 ∨ 200 < a3.toInt)) → f_Mo_begin ν a1 a2 a3 a4 K := fun K k w => by
    unfold f_Mo_begin
    refine bl (fun _ => k) (fun q1 => bl (fun _ => k) (fun q2 => bl (fun _ => k) (fun q3 => bl (fun _ => k) (fun q4 => bl (fun _ => k) (fun q5 => bl (fun _ => k) (fun q6 => bl (fun _ => k) (fun q7 => bg (fun q8 => ?_) (fun _ => k))))))))
    rw [e4] at q1
    rw [e64] at q2
    rw [e1] at q3 q5
    rw [e200] at q4 q6
    rw [e0] at q7
    omega
  refine k_within e4 e64 (fun p1 p2 => br_f (by decide) ?_) (fun w => br_t rfl (kk 0 μ (fun Km km => no Km (km ν h.up) (Or.inl w))))
  refine k_within e0 rfl (fun t1 t2 => bn_t (by decide) ?_) (fun w => bn_f rfl (kk 0 μ (fun Km km => no Km (km ν h.up) (Or.inr (Or.inl w)))))
  refine k_within e1 e200 (fun q1 q2 => br_f (by decide) ?_) (fun w => br_t rfl (kk 0 μ (fun Km km => no Km (km ν h.up) (Or.inr (Or.inr (Or.inl w))))))
  refine k_within e1 e200 (fun c1 c2 => bn_t (by decide) ?_) (fun w => bn_f rfl (kk 0 μ (fun Km km => no Km (km ν h.up) (Or.inr (Or.inr (Or.inr w))))))
  obtain ⟨pg, hp, ep⟩ : ∃ n : Nat, (4 ≤ n ∧ n ≤ 64) ∧ a1 = nI n := ⟨a1.toInt.toNat, by omega, ti_of (by omega)⟩
  subst ep
  rw [ti_n (by omega)] at t2
  obtain ⟨q, hq, eq⟩ : ∃ n : Nat, (1 ≤ n ∧ n ≤ 200) ∧ a2 = nI n := ⟨a2.toInt.toNat, by omega, ti_of (by omega)⟩
  obtain ⟨cq, hcq, ecq⟩ : ∃ n : Nat, (1 ≤ n ∧ n ≤ 200) ∧ a3 = nI n := ⟨a3.toInt.toNat, by omega, ti_of (by omega)⟩
  obtain ⟨tr, htr, etr⟩ : ∃ n : Nat, n ≤ pg ∧ a4 = nI n := ⟨a4.toInt.toNat, by omega, ti_of (by omega)⟩
  subst eq ecq etr
  obtain ⟨pg0, S, T, a, c, hJ, hR, hZ, hK, hC, ha, hc, h01⟩ := id h
  refine k_setAll hp.2 (fun μ' hK' => kk 1 μ' (fun Km km => ?_))
  exact m_beg hp hq hcq htr (fun ν' hM' => km ν' (ZZ_new hK' hM' hR.2.2.2.2.1.2.2 h01 hp hq hcq htr))
