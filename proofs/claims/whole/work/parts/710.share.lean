/-! share -/
theorem xor_nn {x : Int32} : 0 ≤ x ^^^ 2000 ↔ 0 ≤ x.toInt := by
  rw [ti_le, ti_0]
  have h1 : (x ^^^ 2000).toBitVec.msb = decide ((x ^^^ 2000).toBitVec.toInt < 0) := BitVec.msb_eq_toInt
  have h2 : x.toBitVec.msb = decide (x.toBitVec.toInt < 0) := BitVec.msb_eq_toInt
  have h3 : (x ^^^ 2000).toBitVec.msb = x.toBitVec.msb := by
    rw [Int32.toBitVec_xor, BitVec.msb_xor, show (2000 : Int32).toBitVec.msb = false from by decide, Bool.xor_false]
  rw [h1, h2] at h3
  have h4 : (x ^^^ 2000).toBitVec.toInt = (x ^^^ 2000).toInt := rfl
  have h5 : x.toBitVec.toInt = x.toInt := rfl
  rw [h4, h5] at h3
  have := decide_eq_decide.mp h3
  omega
theorem tdiv_2000 {z : Int} (h1 : -2000 ≤ z) (h2 : z < 4000) : z.tdiv 2000 = if 0 ≤ z then z / 2000 else if z = -2000 then -1 else 0 := by
  by_cases h : 0 ≤ z
  · rw [if_pos h, Int.tdiv_eq_ediv_of_nonneg h]
  · rw [if_neg h]
    obtain ⟨m, hm⟩ : ∃ m : Int, z = -m := ⟨-z, by omega⟩
    subst hm
    rw [Int.neg_tdiv, Int.tdiv_eq_ediv_of_nonneg (by omega)]
    split <;> omega
theorem k_floorMod {μ : zM} {x : Int32} {K : Int32 → zM → Prop} (h1 : -2000 ≤ x.toInt) (h2 : x.toInt < 4000) (k : ∀ r : Int32, r.toInt = x.toInt % 2000 → K r μ) : f_Ma_floorMod μ x 2000 K := by
  have e2 : (2000 : Int32).toInt = 2000 := by decide
  have hd : (x / 2000).toInt = x.toInt.tdiv 2000 := by
    rw [Int32.toInt_div, e2, tdiv_2000 h1 h2]
    refine ti_bm ?_
    split
    · omega
    · split <;> omega
  rw [tdiv_2000 h1 h2] at hd
  have hm : (x / 2000 * 2000).toInt = (x / 2000).toInt * 2000 := by
    rw [ti_mul (by rw [e2, hd]; split; omega; split <;> omega), e2]
  have hx : (x - x / 2000 * 2000).toInt = x.toInt - (x / 2000).toInt * 2000 := by
    rw [ti_sub (by rw [hm, hd]; split; omega; split <;> omega), hm]
  rw [hd] at hx
  refine ⟨by decide, fun x2 e => ?_⟩
  subst e
  refine ⟨fun q => k _ ?_, fun q => ⟨fun q2 => k _ ?_, fun q2 => k _ ?_⟩⟩
  · rw [xor_nn] at q
    rw [hx, if_pos q]; omega
  · rw [xor_nn] at q
    rw [ti_eq, ti_0] at q2
    rw [hx, if_neg q] at q2
    rw [hx, if_neg q]
    split at q2
    · rename_i w
      rw [if_pos w]; omega
    · omega
  · rw [xor_nn] at q
    rw [ti_eq, ti_0] at q2
    rw [hx, if_neg q] at q2
    have hx' : (x - x / 2000 * 2000).toInt = x.toInt := by
      rw [hx, if_neg q]
      split at q2
      · omega
      · rename_i w
        rw [if_neg w]; omega
    rw [ti_add (by rw [hx', e2]; omega), hx', e2]
    omega
/-- the ticks, by their number -/
def bb (ν : zM) (i : Nat) : Bool := kb (ν 28 (i % 2000))
theorem bb_v {ν : zM} (h : R01 ν) (i : Nat) : ν 28 (i % 2000) = nI (if bb ν i = true then 1 else 0) := by
  unfold bb
  rcases h (i % 2000) (Nat.mod_lt _ (by decide)) with q | q
  · rw [q, kb_f rfl]; rfl
  · rw [q, kb_t (by decide)]; rfl
section SHARE
variable {ν μ : zM} {t N f w : Nat}
theorem k_kept {K : Int32 → zM → Prop} {i : Nat} (h01 : R01 ν) (hr : ∀ j, j < 2000 → μ 11 j = ν 28 j) (hN : RN μ t) (hNN : N = min t 2000) (hf : f + N = t) (hi : i < N) (k : K (nI (if bb ν (f + i) = true then 1 else 0)) μ) : f_Ck_keptAt μ (nI i) K := by
  obtain ⟨n2, n1⟩ := hN
  rw [← hNN] at n2
  obtain ⟨nx, en, hnx⟩ : ∃ nx : Nat, μ 10 1 = nI nx ∧ (nx = t % 2000 ∨ (t % 2000 = 0 ∧ nx = 2000)) := by
    rcases n1 with q | ⟨q1, q2⟩
    · exact ⟨_, q, Or.inl rfl⟩
    · exact ⟨_, q2, Or.inr ⟨q1, rfl⟩⟩
  have et : (nI nx).toInt = nx := ti_n (by omega)
  have eN : (nI N).toInt = N := ti_n (by omega)
  have ei : (nI i).toInt = i := ti_n (by omega)
  have e1 : (nI nx - nI N).toInt = nx - N := by rw [ti_sub (by rw [et, eN]; omega), et, eN]
  have e2 : (nI nx - nI N + nI i).toInt = nx - N + i := by rw [ti_add (by rw [e1, ei]; omega), e1, ei]
  unfold f_Ck_keptAt
  rw [en, n2]
  refine k_floorMod (by rw [e2]; omega) (by rw [e2]; omega) (fun r er => ?_)
  rw [e2] at er
  have er' : r = nI ((f + i) % 2000) := ti_of (by omega)
  subst er'
  have hm : (f + i) % 2000 < 2000 := Nat.mod_lt _ (by decide)
  refine ⟨vp_in_nI hm (by decide), ?_⟩
  rw [nI_clamp (by omega), hr _ hm, bb_v h01]
  exact k
def PS (ν : zM) (f : Nat) (j : Nat) : Nat := ct (bb ν) f j
theorem PS_s {j : Nat} : PS ν f (j + 1) = PS ν f j + if bb ν (f + j) = true then 1 else 0 := rfl
theorem PS_m {i j : Nat} : PS ν f (i + j) = PS ν f i + ct (bb ν) (f + i) j := ct_add j
theorem PS_w {i j : Nat} : PS ν f i ≤ PS ν f (i + j) ∧ PS ν f (i + j) - PS ν f i ≤ j := by
  rw [PS_m]
  have := ct_le (f := bb ν) (lo := f + i) j
  omega
/-- the fewest in a window, of those that end no later than w + d -/
def mw (ν : zM) (f w : Nat) : Nat → Nat
  | 0 => PS ν f w
  | d + 1 => min (mw ν f w d) (PS ν f (w + (d + 1)) - PS ν f (d + 1))
theorem mw_le {d : Nat} : mw ν f w d ≤ w := by
  induction d with
  | zero => exact ct_le w
  | succ d ih =>
    show min _ _ ≤ w
    omega
theorem k_sumL {K : Int32 → zM → Prop} (h01 : R01 ν) (hr : ∀ j, j < 2000 → μ 11 j = ν 28 j) (hN : RN μ t) (hNN : N = min t 2000) (hf : f + N = t) (hw : w ≤ N) (k : ∃ n : Nat, F_Ck_fewestPrograms_42 K n (nI w) (nI (PS ν f w)) (nI (PS ν f w)) (nI w) μ) : ∀ (m j : Nat), j + m = w → F_Ck_fewestPrograms_18 K (m + 1) (nI w) (nI (PS ν f j)) (nI j) μ
  | 0, j, h => by
    have : j = w := by omega
    subst this
    exact br_t (nI_le (by omega) (by omega)) k
  | m + 1, j, h => by
    refine br_f (nI_ge (by omega) (by omega)) ?_
    refine k_kept h01 hr hN hNN hf (by omega) ?_
    intro x16 e16 x17 e17
    rw [nI_add, ← PS_s] at e16
    rw [nI_1] at e17
    subst e16 e17
    exact k_sumL h01 hr hN hNN hf hw k m (j + 1) (by omega)
theorem nI_sb {a b : Nat} (h : b ≤ a) (ha : a < 2147483648) : nI a - nI b = nI (a - b) := by
  refine ti_of ?_
  rw [ti_sub (by rw [ti_n (by omega), ti_n (by omega)]; omega), ti_n (by omega), ti_n (by omega)]
  omega
theorem k_minL {K : Int32 → zM → Prop} (h01 : R01 ν) (hr : ∀ j, j < 2000 → μ 11 j = ν 28 j) (hN : RN μ t) (hNN : N = min t 2000) (hf : f + N = t) (hw : w ≤ N) (k : K (nI (mw ν f w (N - w))) μ) : ∀ (m d : Nat), w + d + m = N → F_Ck_fewestPrograms_42 K (m + 1) (nI w) (nI (PS ν f (w + d) - PS ν f d)) (nI (mw ν f w d)) (nI (w + d)) μ
  | 0, d, h => by
    have hd : d = N - w := by omega
    have e2 : μ 10 2 = nI N := by rw [hN.1, hNN]
    refine br_t (by rw [e2]; exact nI_le (by omega) (by omega)) ?_
    rw [hd]; exact k
  | m + 1, d, h => by
    have e2 : μ 10 2 = nI N := by rw [hN.1, hNN]
    refine br_f (by rw [e2]; exact nI_ge (by omega) (by omega)) ?_
    refine k_kept h01 hr hN hNN hf (by omega) ?_
    rw [nI_sb (by omega) (by omega), show w + d - w = d by omega]
    refine k_kept h01 hr hN hNN hf (by omega) ?_
    have s1 := PS_s (ν := ν) (f := f) (j := w + d)
    have s2 := PS_s (ν := ν) (f := f) (j := d)
    have w1 := PS_w (ν := ν) (f := f) (i := d) (j := w)
    have w2 := PS_w (ν := ν) (f := f) (i := d + 1) (j := w)
    rw [show d + w = w + d by omega] at w1
    rw [show d + 1 + w = w + d + 1 by omega] at w2
    have e10 : nI (PS ν f (w + d) - PS ν f d) + (nI (if bb ν (f + (w + d)) = true then 1 else 0) - nI (if bb ν (f + d) = true then 1 else 0)) = nI (PS ν f (w + (d + 1)) - PS ν f (d + 1)) := by
      rw [show w + (d + 1) = w + d + 1 by omega]
      have p1 : (if bb ν (f + (w + d)) = true then 1 else 0) ≤ 1 := by split <;> omega
      have q1 : (if bb ν (f + d) = true then 1 else 0) ≤ 1 := by split <;> omega
      generalize (if bb ν (f + (w + d)) = true then 1 else 0) = p at *
      generalize (if bb ν (f + d) = true then 1 else 0) = q at *
      refine ti_of ?_
      have b1 : (nI p - nI q).toInt = (p : Int) - q := by rw [ti_sub (by rw [ti_n (by omega), ti_n (by omega)]; omega), ti_n (by omega), ti_n (by omega)]
      rw [ti_add (by rw [b1, ti_n (by omega)]; omega), b1, ti_n (by omega)]
      omega
    rw [e10]
    intro x10 e10
    subst e10
    have l1 := mw_le (ν := ν) (f := f) (w := w) (d := d)
    have hmin : nI (mw ν f w (d + 1)) = nI (min (mw ν f w d) (PS ν f (w + (d + 1)) - PS ν f (d + 1))) := rfl
    have go : ∀ x13 : Int32, x13 = nI (w + d) + 1 → F_Ck_fewestPrograms_42 K (m + 1) (nI w) (nI (PS ν f (w + (d + 1)) - PS ν f (d + 1))) (nI (mw ν f w (d + 1))) x13 μ := fun x13 e13 => by
      rw [nI_1, show w + d + 1 = w + (d + 1) by omega] at e13
      subst e13
      exact k_minL h01 hr hN hNN hf hw k m (d + 1) (by omega)
    rw [hmin] at go
    unfold f_Ma_min
    rw [show w + (d + 1) = w + d + 1 by omega] at go ⊢
    refine ⟨fun q => ?_, fun q => ?_⟩
    · rw [nI_ltI (by omega) (by omega)] at q
      rw [Nat.min_eq_right (by omega)] at go
      exact go
    · rw [nI_ltI (by omega) (by omega)] at q
      rw [Nat.min_eq_left (by omega)] at go
      exact go
/-- the model's least, i ticks in -/
def lm (ν : zM) (f w i : Nat) : Nat := if i < w then w else mw ν f w (i - w)
theorem lm_s {i : Nat} (hw : 1 ≤ w) (h : w ≤ i + 1) : lm ν f w (i + 1) = min (lm ν f w i) (PS ν f (i + 1) - PS ν f (i + 1 - w)) := by
  unfold lm
  rw [if_neg (by omega)]
  by_cases c : i < w
  · rw [if_pos c]
    have : i + 1 = w := by omega
    rw [this, Nat.sub_self]
    have := ct_le (f := bb ν) (lo := f) w
    show PS ν f w = min w (PS ν f w - 0)
    unfold PS
    omega
  · rw [if_neg c]
    obtain ⟨d, hd⟩ : ∃ d, i = w + d := ⟨i - w, by omega⟩
    subst hd
    rw [show w + d + 1 - w = d + 1 by omega, show w + d - w = d by omega]
    rfl
theorem lm_le {i : Nat} : lm ν f w i ≤ w := by
  unfold lm
  split
  · omega
  · exact mw_le
theorem m_shL {K : Int32 → zM → Prop} (h01 : R01 ν) (ht : t < 1000000000) (hN : N ≤ 2000) (hf : f + N = t) (hw1 : 1 ≤ w) (hw : w ≤ N) (k : K (nI (mw ν f w (N - w))) ν) : ∀ (m i : Nat), i + m = N → F_Mo_share_55 K (m + 1) (nI w) (nI t) (nI f) (nI (PS ν f i - PS ν f (i - w))) (nI (lm ν f w i)) (nI (f + i)) ν
  | 0, i, h => by
    refine br_t (nI_le (by omega) (by omega)) ?_
    have : i = N := by omega
    subst this
    unfold lm
    rw [if_neg (by omega)]; exact k
  | m + 1, i, h => by
    have ih := m_shL h01 ht hN hf hw1 hw k m (i + 1) (by omega)
    have s1 := PS_s (ν := ν) (f := f) (j := i)
    have l1 := lm_le (ν := ν) (f := f) (w := w) (i := i)
    have hm : (f + i) % 2000 < 2000 := Nat.mod_lt _ (by decide)
    -- the end of a turn, with the sum as it shall be
    have tl : ∀ x10 : Int32, x10 = nI (PS ν f (i + 1) - PS ν f (i + 1 - w)) → (((nI (f + i) - nI f) < (nI w - (1 : Int32)) → (∀ x13 : Int32, x13 = nI (f + i) + 1 → (F_Mo_share_55 K (m + 1) (nI w) (nI t) (nI f) x10 (nI (lm ν f w i)) x13 ν))) ∧ (¬ (nI (f + i) - nI f) < (nI w - (1 : Int32)) → ((nI (lm ν f w i) ≤ x10 → (∀ x15 : Int32, x15 = nI (f + i) + 1 → (F_Mo_share_55 K (m + 1) (nI w) (nI t) (nI f) x10 (nI (lm ν f w i)) x15 ν))) ∧ (¬ nI (lm ν f w i) ≤ x10 → (∀ x16 : Int32, x16 = nI (f + i) + 1 → (F_Mo_share_55 K (m + 1) (nI w) (nI t) (nI f) x10 x10 x16 ν)))))) := by
      intro x10 e10
      subst e10
      have w0 : PS ν f (i + 1) ≤ i + 1 := ct_le (i + 1)
      rw [nI_sb (by omega) (by omega), show f + i - f = i by omega, show nI w - 1 = nI (w - 1) from by rw [show (1 : Int32) = nI 1 from rfl, nI_sb (by omega) (by omega)], nI_1, show f + i + 1 = f + (i + 1) by omega]
      refine ⟨fun q x13 e13 => ?_, fun q => ?_⟩
      · rw [nI_ltI (by omega) (by omega)] at q
        subst e13
        have e : lm ν f w (i + 1) = lm ν f w i := by
          unfold lm
          rw [if_pos (by omega), if_pos (by omega)]
        rw [e] at ih
        exact ih
      · rw [nI_ltI (by omega) (by omega)] at q
        have e := lm_s (ν := ν) (f := f) (w := w) (i := i) hw1 (by omega)
        refine ⟨fun q2 x15 e15 => ?_, fun q2 x16 e16 => ?_⟩
        · rw [nI_leI (by omega) (by omega)] at q2
          rw [Nat.min_eq_left (by omega)] at e
          subst e15
          rw [e] at ih
          exact ih
        · rw [nI_leI (by omega) (by omega)] at q2
          rw [Nat.min_eq_right (by omega)] at e
          subst e16
          rw [e] at ih
          exact ih
    have w0 : PS ν f i ≤ i := ct_le i
    -- a tick goes out of the window
    have out : ∀ (p : Nat) (x10 : Int32), p ≤ 1 → PS ν f (i + 1) = PS ν f i + p → x10 = nI (PS ν f i - PS ν f (i - w) + p) → (((nI (f + i) - nI f) < nI w → (((nI (f + i) - nI f) < (nI w - (1 : Int32)) → (∀ x13 : Int32, x13 = nI (f + i) + 1 → (F_Mo_share_55 K (m + 1) (nI w) (nI t) (nI f) x10 (nI (lm ν f w i)) x13 ν))) ∧ (¬ (nI (f + i) - nI f) < (nI w - (1 : Int32)) → ((nI (lm ν f w i) ≤ x10 → (∀ x15 : Int32, x15 = nI (f + i) + 1 → (F_Mo_share_55 K (m + 1) (nI w) (nI t) (nI f) x10 (nI (lm ν f w i)) x15 ν))) ∧ (¬ nI (lm ν f w i) ≤ x10 → (∀ x16 : Int32, x16 = nI (f + i) + 1 → (F_Mo_share_55 K (m + 1) (nI w) (nI t) (nI f) x10 x10 x16 ν))))))) ∧ (¬ (nI (f + i) - nI f) < nI w → (vp_in ((nI (f + i) - nI w) - (nI (f + i) - nI w) / (2000 : Int32) * (2000 : Int32)) 2000 ∧ (((ν 28 ((nI (f + i) - nI w) - (nI (f + i) - nI w) / (2000 : Int32) * (2000 : Int32)).toNatClampNeg) = 0 → (∀ x19 : Int32, x19 = (x10 - (0 : Int32)) → (((nI (f + i) - nI f) < (nI w - (1 : Int32)) → (∀ x21 : Int32, x21 = nI (f + i) + 1 → (F_Mo_share_55 K (m + 1) (nI w) (nI t) (nI f) x19 (nI (lm ν f w i)) x21 ν))) ∧ (¬ (nI (f + i) - nI f) < (nI w - (1 : Int32)) → ((nI (lm ν f w i) ≤ x19 → (∀ x23 : Int32, x23 = nI (f + i) + 1 → (F_Mo_share_55 K (m + 1) (nI w) (nI t) (nI f) x19 (nI (lm ν f w i)) x23 ν))) ∧ (¬ nI (lm ν f w i) ≤ x19 → (∀ x24 : Int32, x24 = nI (f + i) + 1 → (F_Mo_share_55 K (m + 1) (nI w) (nI t) (nI f) x19 x19 x24 ν)))))))) ∧ (¬ (ν 28 ((nI (f + i) - nI w) - (nI (f + i) - nI w) / (2000 : Int32) * (2000 : Int32)).toNatClampNeg) = 0 → (∀ x25 : Int32, x25 = (x10 - (1 : Int32)) → (((nI (f + i) - nI f) < (nI w - (1 : Int32)) → (∀ x27 : Int32, x27 = nI (f + i) + 1 → (F_Mo_share_55 K (m + 1) (nI w) (nI t) (nI f) x25 (nI (lm ν f w i)) x27 ν))) ∧ (¬ (nI (f + i) - nI f) < (nI w - (1 : Int32)) → ((nI (lm ν f w i) ≤ x25 → (∀ x29 : Int32, x29 = nI (f + i) + 1 → (F_Mo_share_55 K (m + 1) (nI w) (nI t) (nI f) x25 (nI (lm ν f w i)) x29 ν))) ∧ (¬ nI (lm ν f w i) ≤ x25 → (∀ x30 : Int32, x30 = nI (f + i) + 1 → (F_Mo_share_55 K (m + 1) (nI w) (nI t) (nI f) x25 x25 x30 ν)))))))))))) := by
      intro p x10 hp1 hps e10
      subst e10
      have es : nI (f + i) - nI f = nI i := by rw [nI_sb (by omega) (by omega), show f + i - f = i by omega]
      refine ⟨fun q => tl _ ?_, fun q => ?_⟩
      · rw [es, nI_ltI (by omega) (by omega)] at q
        rw [hps, show i + 1 - w = 0 by omega, show i - w = 0 by omega, show PS ν f 0 = 0 from rfl]
        rfl
      · rw [es, nI_ltI (by omega) (by omega)] at q
        obtain ⟨d, hd⟩ : ∃ d, i = w + d := ⟨i - w, by omega⟩
        have s2 := PS_s (ν := ν) (f := f) (j := d)
        have w1 := PS_w (ν := ν) (f := f) (i := d) (j := w)
        have w2 := PS_w (ν := ν) (f := f) (i := d + 1) (j := w)
        rw [show d + w = i by omega] at w1
        rw [show d + 1 + w = i + 1 by omega] at w2
        have hm2 : (f + d) % 2000 < 2000 := Nat.mod_lt _ (by decide)
        rw [nI_sb (a := f + i) (b := w) (by omega) (by omega), show f + i - w = f + d by omega, ti_rem (by omega), nI_clamp (by omega)]
        have hv := bb_v h01 (f + d)
        refine ⟨vp_in_nI hm2 (by decide), fun z x19 e19 => tl x19 ?_, fun z x25 e25 => tl x25 ?_⟩
        · have hb : bb ν (f + d) = false := kb_f z
          rw [if_neg (by rw [hb]; decide)] at s2
          rw [e19, show i + 1 - w = d + 1 by omega, show i - w = d by omega, show (0 : Int32) = nI 0 from rfl, nI_sb (by omega) (by omega)]
          congr 1
          omega
        · have hb : bb ν (f + d) = true := kb_t z
          rw [if_pos hb] at s2
          rw [e25, show i + 1 - w = d + 1 by omega, show i - w = d by omega, show (1 : Int32) = nI 1 from rfl, nI_sb (by omega) (by omega)]
          congr 1
          omega
    refine br_f (nI_ge (by omega) (by omega)) ?_
    rw [ti_rem (by omega), nI_clamp (by omega)]
    refine ⟨vp_in_nI hm (by decide), fun z x10 e10 => ?_, fun z x31 e31 => ?_⟩
    · have hb : bb ν (f + i) = false := kb_f z
      rw [if_neg (by rw [hb]; decide)] at s1
      rw [show (0 : Int32) = nI 0 from rfl, nI_add] at e10
      exact out 0 x10 (by omega) s1 e10
    · have hb : bb ν (f + i) = true := kb_t z
      rw [if_pos hb] at s1
      rw [show (1 : Int32) = nI 1 from rfl, nI_add] at e31
      exact out 1 x31 (by omega) s1 e31
theorem p_share {k : Nat} (h : ZZ k ν μ) (a1 : Int32) : PP k (f_Bh_share μ a1) (f_Mo_share ν a1) := by
  refine look_PP h ?_
  obtain ⟨pg, S, T, a, c, hJ, hR, hZ, hK, hC, ha, hc, h01⟩ := id h
  obtain ⟨k1, k2, k3⟩ := id hK
  obtain ⟨t, ht⟩ : ∃ t, t = a + c := ⟨_, rfl⟩
  obtain ⟨N, hN⟩ : ∃ N, N = min t 2000 := ⟨_, rfl⟩
  obtain ⟨f, hf⟩ : ∃ f, f + N = t := ⟨t - N, by omega⟩
  have hRN : RN μ t := by
    have := hR.2.2.2.2.2
    rw [k1, k2, nN_n (by omega), nN_n (by omega), ← ht] at this
    exact this
  have e1 : (1 : Int32).toInt = 1 := by decide
  have e2000 : (2000 : Int32).toInt = 2000 := by decide
  have eN : (μ 10 2).toInt = (N : Int) := by rw [hRN.1, ← hN, ti_n (by omega)]
  have es : ν 19 22 + ν 19 23 = nI t := by rw [k1, k2, nI_add, ← ht]
  have est : (nI t).toInt = t := ti_n (by omega)
  by_cases hw : 1 ≤ a1.toInt ∧ a1.toInt ≤ N
  · obtain ⟨w, hw2, ew⟩ : ∃ w : Nat, (1 ≤ w ∧ w ≤ N) ∧ a1 = nI w := ⟨a1.toInt.toNat, by omega, ti_of (by omega)⟩
    subst ew
    refine ⟨nI (mw ν f w (N - w)), fun G g => ?_, fun K k => ?_⟩
    · unfold f_Bh_share f_Ck_fewestPrograms
      refine k_within e1 eN (fun _ _ => bn_t (by decide) ?_) (fun z => by omega)
      refine ⟨w + 1, k_sumL h01 hR.2.2.2.2.1.2.2 hRN hN hf hw2.2 ⟨N - w + 1, ?_⟩ w 0 (by omega)⟩
      exact k_minL h01 hR.2.2.2.2.1.2.2 hRN hN hf hw2.2 g (N - w) 0 (by omega)
    · unfold f_Mo_share
      rw [es]
      intro x1 e1'
      subst e1'
      have go := m_shL (ν := ν) (t := t) (N := N) (f := f) (w := w) h01 (by omega) (by omega) hf hw2.1 hw2.2 k N 0 (by omega)
      have l0 : lm ν f w 0 = w := by unfold lm; rw [if_pos (by omega)]
      rw [l0, Nat.zero_sub, show PS ν f 0 - PS ν f 0 = 0 from rfl, Nat.add_zero] at go
      refine br_f (by rw [ti_lt, e1]; omega) (br_f (by rw [ti_lt, e2000]; omega) (br_t (by rw [ti_le, est]; omega) ⟨fun q x6 e6 => ?_, fun q => ?_⟩))
      · rw [ti_le, e2000, est] at q
        rw [show (2000 : Int32) = nI 2000 from rfl, nI_sb (by omega) (by omega), show t - 2000 = f by omega] at e6
        subst e6
        exact ⟨N + 1, go⟩
      · rw [ti_le, e2000, est] at q
        have : f = 0 := by omega
        subst this
        exact ⟨N + 1, go⟩
  · refine ⟨-1, fun G g => ?_, fun K k => ?_⟩
    · unfold f_Bh_share f_Ck_fewestPrograms
      exact k_within e1 eN (fun z1 z2 => absurd ⟨z1, z2⟩ hw) (fun z => bn_f rfl g)
    · unfold f_Mo_share
      rw [es]
      intro x1 e1'
      subst e1'
      refine bl (fun _ => k) (fun z1 => bl (fun _ => k) (fun z2 => bg (fun z3 => ?_) (fun _ => k)))
      rw [e1] at z1
      rw [e2000] at z2
      rw [est] at z3
      omega
end SHARE
