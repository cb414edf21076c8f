/-! SWEEP -/
def g_sw1 (ν : zM) (b sz : Nat) : zM := if ν 23 b ≠ 0 then zp ν 23 b 0 else if ν 22 b ≠ 0 then zs (zp (zp ν 22 b 0) 19 20 (ν 19 20 + 1)) 20 (wz (ν 20) b sz) else ν
def g_sw3 (ν : zM) (b sz : Nat) : zM := if (b + sz) % 64 = 0 ∧ hd ν (b / 64) = 0 then zp ν 21 (b / 64) (-1) else ν
def g_sweep (ν : zM) (b sz : Nat) : zM := g_sw3 (zp (g_sw1 ν b sz) 19 17 (nI (b + sz))) b sz
theorem sz_v {x : Int32} (h : isCl x) : (4 : Int32) <<< (x &&& 31) = nI (bs x) := by
  rcases h with rfl | rfl | rfl | rfl <;> decide
theorem zb_v {x : Int32} (h : isCl x) : zb1 x.toNatClampNeg = nI (bs x) ∧ vp_in x 4 ∧ ¬ x < 0 ∧ ¬ (4 : Int32) ≤ x := by
  rcases h with rfl | rfl | rfl | rfl
  · exact ⟨by decide, vp_in_nI (n := 0) (by decide) (by decide), by decide, by decide⟩
  · exact ⟨by decide, vp_in_nI (n := 1) (by decide) (by decide), by decide, by decide⟩
  · exact ⟨by decide, vp_in_nI (n := 2) (by decide) (by decide), by decide, by decide⟩
  · exact ⟨by decide, vp_in_nI (n := 3) (by decide) (by decide), by decide, by decide⟩
theorem m_swT {ν : zM} {b sz : Nat} {K : zM → Prop} (hb : b < 4096) (hs : b % 64 + sz ≤ 64) (hs0 : 4 ≤ sz) (k : K (g_sw3 (zp ν 19 17 (nI (b + sz))) b sz)) :
    ∀ μ9 : zM, μ9 = zp ν 19 17 (nI b + nI sz) → ∀ x10 : Int32, x10 = (nI b / (64 : Int32)) → ((¬ (μ9 19 17) = ((64 : Int32) * (x10 + (1 : Int32))) → K μ9) ∧ ((μ9 19 17) = ((64 : Int32) * (x10 + (1 : Int32))) → f_Mo_holding μ9 x10 (fun r13 μ12 => (¬ r13 = 0 → K μ12) ∧ (r13 = 0 → (vp_in x10 64 ∧ ∀ μ16 : zM, μ16 = zp μ12 21 x10.toNatClampNeg (-1 : Int32) → K μ16))))) := by
  intro μ9 e9 x10 e10
  rw [nI_add] at e9
  rw [nI_d64 (by omega)] at e10
  subst e9 e10
  have q1 : (zp ν 19 17 (nI (b + sz))) 19 17 = nI (b + sz) := rfl
  rw [q1, show (1 : Int32) = nI 1 from rfl, nI_add, nI_64m, nI_eq (by omega) (by omega), nI_clamp (by omega)]
  unfold g_sw3 at k
  refine ⟨fun h => ?_, fun h => ?_⟩
  · rw [if_neg (fun q => h (by omega))] at k; exact k
  · refine m_hold (by omega) ?_
    refine ⟨fun h2 => ?_, fun h2 => ?_⟩
    · rw [if_neg (fun q => h2 (by rw [q.2]; rfl))] at k; exact k
    · have hle := hd_le (ν := zp ν 19 17 (nI (b + sz))) (p := b / 64)
      have h0 : hd (zp ν 19 17 (nI (b + sz))) (b / 64) = 0 := by
        rw [show (0 : Int32) = nI 0 from rfl, nI_eq (by omega) (by decide)] at h2
        exact h2
      rw [if_pos ⟨by omega, h0⟩] at k
      exact ⟨vp_in_nI (by omega) (by decide), nm_e k⟩
theorem m_swL {ν : zM} {b sz : Nat} {K : zM → Prop} (hb : b < 4096) (hs : b % 64 + sz ≤ 64) (hs0 : 4 ≤ sz) (k : K (g_sw3 (zp (zs ν 20 (wz (ν 20) b sz)) 19 17 (nI (b + sz))) b sz)) : ∀ (m j : Nat), j + m = sz → ∃ n : Nat, F_Mo_sweepStep_58 K n (nI b) (nI sz) (nI j) (zs ν 20 (wz (ν 20) b j))
  | 0, j, h => ⟨1, by
    have : j = sz := by omega
    subst this
    exact br_t (nI_le (Nat.le_refl _) (by omega)) (m_swT hb hs hs0 k)⟩
  | m + 1, j, h => by
    obtain ⟨n, hn⟩ := m_swL hb hs hs0 k m (j + 1) (by omega)
    refine ⟨n + 1, ?_⟩
    refine br_f (nI_ge (by omega) (by omega)) ?_
    rw [nI_add]
    refine ⟨vp_in_nI (by omega) (by decide), ?_⟩
    rw [nI_clamp (by omega)]
    intro μ30 e30 x31 e31
    rw [nI_1] at e31
    have e : μ30 = zs ν 20 (wz (ν 20) b (j + 1)) := by
      rw [e30]
      show zs (zs ν 20 (wz (ν 20) b j)) 20 (upd ((zs ν 20 (wz (ν 20) b j)) 20) (b + j) 0) = _
      rw [zs_zs, zs_s]
      rfl
    rw [e, e31]
    exact hn
theorem m_sweep {ν : zM} {pg pl b sz : Nat} {K : zM → Prop} (h1 : I1 ν pg) (hp : ν 19 17 = nI pl) (hpl : pl ≤ 64 * pg) (hb : nbk ν pl pg = some b) (hb4 : b < 4096) (hc : isCl (ν 21 (b / 64))) (hsz : sz = bs (ν 21 (b / 64))) (hm : b % bs (ν 21 (b / 64)) = 0) (k : K (g_sweep ν b sz)) : f_Mo_sweepStep ν K := by
  have hs := blk_in hc hm
  have hl := bs_le (c := ν 21 (b / 64))
  rw [← hsz] at hs hl
  unfold f_Mo_sweepStep
  refine m_nb h1 hp hpl ?_
  rw [hb, show oI (some b) = nI b from rfl]
  unfold f_Mo_sizeAt
  rw [nI_d64 (by omega), nI_clamp (by omega)]
  refine ⟨vp_in_nI (by omega) (by decide), ?_⟩
  unfold f_Mo_sizeOf
  rw [sz_v hc, ← hsz]
  dsimp only
  rw [nI_clamp (by omega)]
  refine ⟨vp_in_nI hb4 (by decide), ?_⟩
  unfold g_sweep g_sw1 at k
  refine ⟨fun e => ⟨vp_in_nI hb4 (by decide), ?_⟩, fun e => ⟨vp_in_nI hb4 (by decide), ?_⟩⟩
  · rw [if_neg (fun q => q e)] at k
    refine ⟨fun e2 => ?_, fun e2 => ⟨vp_in_nI hb4 (by decide), ?_⟩⟩
    · rw [if_neg (fun q => q e2)] at k
      have := m_swT (K := K) hb4 hs hl.1 k
      rw [nI_d64 (by omega)] at this
      exact this
    · rw [if_pos e2] at k
      intro μ18 e18 μ19 e19
      subst e18 e19
      have := m_swL (ν := zp (zp ν 22 b 0) 19 20 (ν 19 20 + 1)) (K := K) hb4 hs hl.1 k sz 0 (by omega)
      rw [show zs (zp (zp ν 22 b 0) 19 20 (ν 19 20 + 1)) 20 (wz ((zp (zp ν 22 b 0) 19 20 (ν 19 20 + 1)) 20) b 0) = zp (zp ν 22 b 0) 19 20 (ν 19 20 + 1) from zs_id] at this
      exact this
  · rw [if_pos e] at k
    rw [nz0]
    intro μ33 e33
    subst e33
    have := m_swT (ν := zp ν 23 b 0) (K := K) hb4 hs hl.1 k
    rw [nI_d64 (by omega)] at this
    exact this
/-- the class's words of a block -/
theorem k_blockWords {μ : zM} {x : Int32} {K : Int32 → zM → Prop} (hc : isCl x) (k : K (nI (bs x)) μ) : f_Bh_blockWords μ x K := by
  obtain ⟨z1, z2, z3, z4⟩ := zb_v hc
  unfold f_Bh_blockWords f_Bh_isClass
  refine br_f z3 (br_f z4 (br_f (by decide) ⟨z2, ?_⟩))
  rw [z1]; exact k
theorem k_words {ν μ : zM} {pg b : Nat} {K : Int32 → zM → Prop} (b1 : μ 2 7 = nI pg) (hp : pg ≤ 64) (b8 : ∀ p, p < 64 → μ 8 p = ν 21 p) (hb : b < 64 * pg) (hc : isCl (ν 21 (b / 64))) (k : K (nI (bs (ν 21 (b / 64)))) μ) : f_Bk_wordsOfBlock μ (nI b) K := by
  unfold f_Bk_wordsOfBlock
  rw [nI_d64 (by omega)]
  refine k_class b1 hp (by omega) ?_
  rw [b8 _ (by omega)]
  exact k_blockWords hc k
theorem k_relL {μ : zM} {pg b sz : Nat} {K : zM → Prop} (b1 : μ 2 7 = nI pg) (hp : pg ≤ 64) (hb : b + sz ≤ 64 * pg) (hsz : sz ≤ 32)
    (k : K (zp (zp (zp (zp (zs μ 3 (wz (μ 3) b sz)) 4 (b / 4) 0) 9 (b / 64) (μ 9 (b / 64) - 1)) 2 9 (μ 2 9 - 1)) 2 10 (μ 2 10 + 1))) (hb2 : b < 4096) : ∀ (m j : Nat), j + m = sz → ∃ n : Nat, F_Bk_release_19 K n (nI b) (nI sz) (nI j) (zs μ 3 (wz (μ 3) b j))
  | 0, j, h => ⟨1, by
    have : j = sz := by omega
    subst this
    refine br_t (nI_le (Nat.le_refl _) (by omega)) ?_
    rw [nI_d4 (by omega), nI_d64 (by omega), nI_clamp (by omega), nI_clamp (by omega), nb0]
    refine ⟨vp_in_nI (by omega) (by decide), fun μ9 e9 => ⟨vp_in_nI (by omega) (by decide), vp_in_nI (by omega) (by decide), fun μ12 e12 μ13 e13 μ14 e14 => ?_⟩⟩
    subst e9 e12 e13 e14
    exact k⟩
  | m + 1, j, h => by
    obtain ⟨n, hn⟩ := k_relL b1 hp hb hsz k hb2 m (j + 1) (by omega)
    refine ⟨n + 1, ?_⟩
    refine br_f (nI_ge (by omega) (by omega)) ?_
    rw [nI_add]
    refine k_setWord (μ := zs μ 3 (wz (μ 3) b j)) b1 hp (by omega) ?_
    intro x16 e16
    rw [nI_1] at e16
    subst e16
    have e : zp (zs μ 3 (wz (μ 3) b j)) 3 (b + j) 0 = zs μ 3 (wz (μ 3) b (j + 1)) := by
      show zs (zs μ 3 (wz (μ 3) b j)) 3 (upd ((zs μ 3 (wz (μ 3) b j)) 3) (b + j) 0) = _
      rw [zs_zs, zs_s]
      rfl
    rw [e]
    exact hn
theorem k_release {μ : zM} {pg b sz : Nat} {K : zM → Prop} (b1 : μ 2 7 = nI pg) (hp : pg ≤ 64) (hb : b + sz ≤ 64 * pg) (hsz : sz ≤ 32) (hs0 : 4 ≤ sz)
    (k0 : μ 4 (b / 4) = 0 → K μ) (k : μ 4 (b / 4) ≠ 0 → K (zp (zp (zp (zp (zs μ 3 (wz (μ 3) b sz)) 4 (b / 4) 0) 9 (b / 64) (μ 9 (b / 64) - 1)) 2 9 (μ 2 9 - 1)) 2 10 (μ 2 10 + 1))) : f_Bk_release μ (nI b) (nI sz) K := by
  unfold f_Bk_release
  refine k_ins b1 hp (by omega) (br_f (by decide) (k_kind b1 hp (by omega) ⟨fun h => ?_, fun h => k0 h⟩))
  have := k_relL b1 hp hb hsz (k h) (by omega) sz 0 (by omega)
  rw [show zs μ 3 (wz (μ 3) b 0) = μ from zs_id] at this
  exact this
theorem k_close {μ : zM} {pg p : Nat} {K : zM → Prop} (b1 : μ 2 7 = nI pg) (hp : pg ≤ 64) (hpp : p < pg) (hc : μ 8 p ≠ -1) (k0 : μ 9 p ≠ 0 → K μ) (k1 : μ 9 p = 0 → K (zp (zp μ 8 p (-1)) 2 8 (μ 2 8 + 1))) : f_Bk_closeIfEmpty μ (nI p) K := by
  unfold f_Bk_closeIfEmpty
  refine k_page b1 hp hpp (br_f (by decide) ⟨vp_in_nI (by omega) (by decide), ?_⟩)
  rw [nI_clamp (by omega)]
  refine br_f hc ⟨vp_in_nI (by omega) (by decide), fun h => k0 h, fun h => ⟨vp_in_nI (by omega) (by decide), ?_⟩⟩
  intro μ9 e9 μ10 e10
  subst e9 e10
  exact k1 h
/-- behind a block that was swept -/
theorem k_swT {ν μ : zM} {pg b sz : Nat} {K : zM → Prop} (h1 : I1 ν pg) (hR : RA ν μ pg) (h3 : ν 19 13 = 3) (h15 : ν 19 15 = -1) (h17 : ν 19 17 = nI (b + sz)) (hb : b + sz ≤ 64 * pg) (hs0 : 4 ≤ sz) (hs : b % 64 + sz ≤ 64) (hc : ν 21 (b / 64) ≠ -1) (k : ∀ μ' : zM, RA (g_end (g_sw3 ν b sz) pg) μ' pg → ((g_end (g_sw3 ν b sz) pg) 19 13 ≠ 0 → μ' 1 8 = μ 1 8) → K μ') :
    (¬ ((μ 1 12) - (μ 1 12) / (64 : Int32) * (64 : Int32)) = 0 → f_Co_endIfSwept μ (fun μ13 => K μ13)) ∧ (((μ 1 12) - (μ 1 12) / (64 : Int32) * (64 : Int32)) = 0 → f_Bk_closeIfEmpty μ (nI b / (64 : Int32)) (fun μ14 => f_Co_endIfSwept μ14 (fun μ15 => K μ15))) := by
  have g2 := h1.2.1
  obtain ⟨hB, hP, hO, hS, hK, hN⟩ := id hR
  obtain ⟨b1, b2, b3, b4, b5, b6, b7, b8, b9, b10, b11⟩ := id hB
  have e12 : μ 1 12 = nI (b + sz) := by rw [hS.2.2.2.2.2.2.2.2.2.2.1 h3, h17]
  have er : nI (b + sz) - nI (b + sz) / (64 : Int32) * (64 : Int32) = nI ((b + sz) % 64) := pk_rem (d := 64) (by omega) (by decide) (by decide)
  rw [e12, er, nI_d64 (by omega), show (0 : Int32) = nI 0 from rfl, nI_eq (by omega) (by decide)]
  refine ⟨fun h => ?_, fun h => ?_⟩
  · have eg : g_sw3 ν b sz = ν := by unfold g_sw3; rw [if_neg (fun q => h q.1)]
    rw [eg] at k
    exact k_end h1 hR h3 h15 h17 hb k
  · have hle := hd_le (ν := ν) (p := b / 64)
    refine k_close b1 g2 (by omega) (by rw [b8 _ (by omega)]; exact hc) (fun h2 => ?_) (fun h2 => ?_)
    · have eg : g_sw3 ν b sz = ν := by
        unfold g_sw3
        rw [if_neg (fun q => h2 (by rw [b9 _ (by omega), q.2]; rfl))]
      rw [eg] at k
      exact k_end h1 hR h3 h15 h17 hb k
    · rw [b9 _ (by omega), show (0 : Int32) = nI 0 from rfl, nI_eq (by omega) (by decide)] at h2
      have eg : g_sw3 ν b sz = zp ν 21 (b / 64) (-1) := by
        unfold g_sw3
        rw [if_pos ⟨h, h2⟩]
      rw [eg] at k
      have hRz : RA (zp ν 21 (b / 64) (-1)) (zp (zp μ 8 (b / 64) (-1)) 2 8 (μ 2 8 + 1)) pg := by
        refine ⟨⟨b1, b2, b3, b4, b5, b6, b7, fun p hp => ?_, b9, ?_, b11⟩, hP, hO, hS, hK, hN⟩
        · show upd (μ 8) (b / 64) (-1) p = upd (ν 21) (b / 64) (-1) p
          by_cases e : p = b / 64
          · rw [e, up_s, up_s]
          · rw [up_n e, up_n e]; exact b8 p hp
        · show μ 2 8 + 1 = nI (fr (zp ν 21 (b / 64) (-1)) pg)
          rw [fr_close hc (by omega), b10, nI_1]
      exact k_end (ν := zp ν 21 (b / 64) (-1)) h1 hRz h3 h15 h17 hb k
theorem k_sweep {ν μ : zM} {pg pl b sz : Nat} {K : zM → Prop} (hI : IB ν pg) (hR : RA ν μ pg) (h3 : ν 19 13 = 3) (h15 : ν 19 15 = -1) (hp : ν 19 17 = nI pl) (hpl : pl ≤ 64 * pg) (hb : nbk ν pl pg = some b) (hb6 : b < 64 * pg) (hc : isCl (ν 21 (b / 64))) (hsz : sz = bs (ν 21 (b / 64))) (hm : b % bs (ν 21 (b / 64)) = 0) (k : ∀ μ' : zM, RA (g_end (g_sweep ν b sz) pg) μ' pg → ((g_end (g_sweep ν b sz) pg) 19 13 ≠ 0 → μ' 1 8 = μ 1 8) → K μ') : f_Co_sweepStep μ K := by
  obtain ⟨h1, h2, hi3, hi4, hi5, hi6⟩ := hI
  have g2 := h1.2.1
  have hs := blk_in hc hm
  have hl := bs_le (c := ν 21 (b / 64))
  rw [← hsz] at hs hl
  obtain ⟨hB, hP, hO, hS, hK, hN⟩ := id hR
  obtain ⟨b1, b2, b3, b4, b5, b6, b7, b8, b9, b10, b11⟩ := id hB
  obtain ⟨s1, s2, s3, s4, s5, s6, s7, s8, s9, s10, s11, s12⟩ := id hS
  have b44 : b % 4 = 0 := by
    rcases bs_v hc with ⟨-, w⟩ | ⟨-, w⟩ | ⟨-, w⟩ | ⟨-, w⟩ <;> rw [w] at hm <;> omega
  have b4b : 4 * (b / 4) = b := by omega
  unfold f_Co_sweepStep
  rw [s11 h3, hp]
  refine k_bf (ν := ν) b1 g2 b8 hpl ?_
  rw [hb, show oI (some b) = nI b from rfl]
  refine br_f (nI_m1 (by omega)) ?_
  refine k_words (ν := ν) b1 g2 b8 hb6 hc ?_
  rw [← hsz, nI_add]
  intro μ7 e7
  subst e7
  refine k_marked (μ := zp μ 1 12 (nI (b + sz))) b1 g2 hb6 (fun e => br_t rfl ?_) (fun e => br_f (by decide) ?_)
  · have e : μ 5 (b / 4) = 0 := e
    rw [b5 _ (by omega), b4b] at e
    refine k_release (μ := zp μ 1 12 (nI (b + sz))) b1 g2 (by omega) hl.2 hl.1 (fun e4 => ?_) (fun e4 => ?_)
    · have e4 : μ 4 (b / 4) = 0 := e4
      rw [b4 _ (by omega), b4b] at e4
      have eg : g_sw1 ν b sz = ν := by unfold g_sw1; rw [if_neg (fun q => q e), if_neg (fun q => q e4)]
      unfold g_sweep at k
      rw [eg] at k
      exact k_swT (ν := zp ν 19 17 (nI (b + sz))) (μ := zp μ 1 12 (nI (b + sz))) h1 ⟨hB, hP, hO, ⟨s1, s2, s3, s4, s5, s6, s7, s8, s9, s10, fun _ => rfl, fun q => absurd h3 q⟩, hK, hN⟩ h3 h15 rfl (by omega) hl.1 hs (isCl_n hc) k
    · have e4 : μ 4 (b / 4) ≠ 0 := e4
      rw [b4 _ (by omega), b4b] at e4
      have eg : g_sw1 ν b sz = zs (zp (zp ν 22 b 0) 19 20 (ν 19 20 + 1)) 20 (wz (ν 20) b sz) := by unfold g_sw1; rw [if_neg (fun q => q e), if_pos e4]
      unfold g_sweep at k
      rw [eg] at k
      have hh := hd_free e4
      have haf := ha_free e4 hb6
      have hRz : RA (zp (zs (zp (zp ν 22 b 0) 19 20 (ν 19 20 + 1)) 20 (wz (ν 20) b sz)) 19 17 (nI (b + sz))) (zp (zp (zp (zp (zs (zp μ 1 12 (nI (b + sz))) 3 (wz (μ 3) b sz)) 4 (b / 4) 0) 9 (b / 64) (μ 9 (b / 64) - 1)) 2 9 (μ 2 9 - 1)) 2 10 (μ 2 10 + 1)) pg := by
        refine ⟨⟨b1, ?_, fun a ha => ?_, r_mark b4 b44, b5, fun s hs hk => ?_, fun s hs hk => ?_, b8, fun p hp => ?_, b10, ?_⟩, hP, hO, ⟨s1, s2, s3, s4, s5, s6, s7, s8, s9, s10, fun _ => rfl, fun q => absurd h3 q⟩, hK, hN⟩
        · show μ 2 10 + 1 = ν 19 20 + 1
          rw [b2]
        · show wz (μ 3) b sz a = wz (ν 20) b sz a
          by_cases e : b ≤ a ∧ a < b + sz
          · rw [wz_in sz a e.1 e.2, wz_in sz a e.1 e.2]
          · rw [wz_out sz a (by omega), wz_out sz a (by omega)]; exact b3 a ha
        · refine b6 s hs ?_
          have hk : upd (ν 22) b 0 (4 * s) ≠ 0 := hk
          by_cases e : 4 * s = b
          · rw [e, up_s] at hk; exact absurd rfl hk
          · rw [up_n e] at hk; exact hk
        · refine b7 s hs ?_
          have hk : upd (ν 22) b 0 (4 * s) = 1 ∨ upd (ν 22) b 0 (4 * s) = 2 := hk
          by_cases e : 4 * s = b
          · rw [e, up_s] at hk; rcases hk with q | q <;> exact absurd q (by decide)
          · rw [up_n e] at hk; exact hk
        · show upd (μ 9) (b / 64) (μ 9 (b / 64) - 1) p = nI (hd (zp ν 22 b 0) p)
          have hq := hh p
          by_cases e : p = b / 64
          · rw [if_pos e] at hq
            rw [e, up_s, b9 _ (by omega), ← e, hq]
            exact nI_pred _
          · rw [if_neg e] at hq
            rw [up_n e, b9 p hp, hq]
            rfl
        · show μ 2 9 - 1 = nI (ha (zp ν 22 b 0) pg)
          rw [b11, haf]
          exact nI_pred _
      exact k_swT (ν := zp (zs (zp (zp ν 22 b 0) 19 20 (ν 19 20 + 1)) 20 (wz (ν 20) b sz)) 19 17 (nI (b + sz))) h1 hRz h3 h15 rfl (by omega) hl.1 hs (isCl_n hc) k
  · have e : μ 5 (b / 4) ≠ 0 := e
    rw [b5 _ (by omega), b4b] at e
    have eg : g_sw1 ν b sz = zp ν 23 b 0 := by unfold g_sw1; rw [if_pos e]
    unfold g_sweep at k
    rw [eg] at k
    refine k_setMark (μ := zp μ 1 12 (nI (b + sz))) (Or.inl rfl) b1 g2 hb6 ?_
    exact k_swT (ν := zp (zp ν 23 b 0) 19 17 (nI (b + sz))) (μ := zp (zp μ 1 12 (nI (b + sz))) 5 (b / 4) 0) h1 ⟨⟨b1, b2, b3, b4, r_mark b5 b44, b6, b7, b8, b9, b10, b11⟩, hP, hO, ⟨s1, s2, s3, s4, s5, s6, s7, s8, s9, s10, fun _ => rfl, fun q => absurd h3 q⟩, hK, hN⟩ h3 h15 rfl (by omega) hl.1 hs (isCl_n hc) k
