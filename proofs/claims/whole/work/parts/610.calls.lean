/-! the calls, one by one -/
def WW (e A : Nat) (ν μ : zM) (pg : Nat) (S T : Nat → Prop) : Prop := ∃ a c : Nat, JJ ν pg S T e ∧ RA ν μ pg ∧ ZC ν μ ∧ IK ν a c ∧ CB ν ∧ a ≤ A ∧ c ≤ 200 * a ∧ R01 ν
theorem ZZ_W {k : Nat} {ν μ : zM} : ZZ k ν μ ↔ ∃ (pg : Nat) (S T : Nat → Prop), WW 16 (1000 * k) ν μ pg S T :=
  ⟨fun ⟨pg, S, T, a, c, h⟩ => ⟨pg, S, T, a, c, h⟩, fun ⟨pg, S, T, a, c, h⟩ => ⟨pg, S, T, a, c, h⟩⟩
theorem WW.up {e A B : Nat} {ν μ : zM} {pg : Nat} {S T : Nat → Prop} (h : WW e A ν μ pg S T) (hAB : A ≤ B) : WW e B ν μ pg S T := by
  obtain ⟨a, c, h1, h2, h3, h4, h5, h6, h7⟩ := h
  exact ⟨a, c, h1, h2, h3, h4, h5, by omega, h7⟩
theorem WW.Z {A k : Nat} {ν μ : zM} {pg : Nat} {S T : Nat → Prop} (h : WW 16 A ν μ pg S T) (hA : A ≤ 1000 * k) : ZZ k ν μ := ZZ_W.mpr ⟨pg, S, T, h.up hA⟩
theorem w_didk {e A t : Nat} {ν μ : zM} {pg : Nat} {S T : Nat → Prop} {G : zM → Prop} (h : WW e A ν μ pg S T) (h1 : 1 ≤ t) (h9 : t ≤ 9) (hA : A ≤ 600000) (g : ∀ μ' : zM, (∃ S' T' : Nat → Prop, WW e (A + t) (g_did ν pg t) μ' pg S' T') → G μ') : f_Co_spend μ (nI t) G := by
  obtain ⟨a, c, hJ, hR, hZ, hK, hC, ha, hc⟩ := h
  refine k_did hJ hR hZ hK hC h1 h9 (by omega) (fun μ' r1 r2 => g μ' ?_)
  obtain ⟨S', T', c', w1, w2, w3, w4, -⟩ := J_did hJ hK hC h1 h9 (by omega)
  exact ⟨S', T', a + t, c', w2, r1, r2, w3, w4, by omega, by omega, R01_did hc.2⟩
theorem w_didm {e A t : Nat} {ν μ : zM} {pg : Nat} {S T : Nat → Prop} {K : zM → Prop} (h : WW e A ν μ pg S T) (h1 : 1 ≤ t) (h9 : t ≤ 9) (hA : A ≤ 600000) (k : K (g_did ν pg t)) : f_Mo_did ν (nI t) K := by
  obtain ⟨a, c, hJ, hR, hZ, hK, hC, ha, hc⟩ := h
  exact m_did hJ hK hC h1 h9 (by omega) k
def PP (k : Nat) (fB fM : (Int32 → zM → Prop) → Prop) : Prop := ∀ G : Int32 → zM → Prop, (∀ (r : Int32) (μ' : zM), (∀ Km : Int32 → zM → Prop, (∀ ν' : zM, ZZ (k + 1) ν' μ' → Km r ν') → fM Km) → G r μ') → fB G
theorem WW.word {e A w : Nat} {ν μ : zM} {pg : Nat} {S T : Nat → Prop} {v : Int32} (h : WW e A ν μ pg S T) (hw : okN ν pg w) : WW e A (zp ν 20 w v) (zp μ 3 w v) pg S T := by
  obtain ⟨a, c, hJ, hR, hZ, hK, hC, ha, hc⟩ := h
  obtain ⟨w1, w2, ⟨b, b1, b2, b3, b4⟩, w4⟩ := hw
  exact ⟨a, c, J_wr hJ b1 b2 b3 b4 (fun a i _ hob i1 i2 q => absurd q (w4 a i hob i1 i2)) (fun a i _ hob i1 i2 q => absurd q (w4 a i hob i1 i2)) (fun _ a i _ hob i1 i2 q => absurd q (w4 a i hob i1 i2)), RA_wr hR, hZ, hK, hC, ha, hc⟩
section CALLS
variable {k : Nat} {ν μ : zM}
theorem p_put (h : ZZ k ν μ) (hk : k < 512) (a1 a2 a3 : Int32) : PP k (f_Bh_put μ a1 a2 a3) (f_Mo_put ν a1 a2 a3) := by
  intro G kk
  obtain ⟨pg, S, T, hW⟩ := ZZ_W.mp h
  obtain ⟨a, c, hJ, hR, -⟩ := id hW
  have g2 := hJ.1.1.2.1
  obtain ⟨res, n1, n2, n3⟩ := numAt hJ hR a1 a2
  cases res with
  | none =>
    refine n1 _ (bn_f rfl (kk 0 μ (fun Km km => ?_)))
    exact n2 _ (bn_f rfl (km ν h.up))
  | some w =>
    have hw := n3 w rfl
    have w1 := hw.1
    have hW1 := hW.word (v := a3) hw
    refine n1 _ (bn_t (oI_some (by omega)) ?_)
    refine k_setWord hR.1.1 g2 hw.1 ?_
    refine w_didk (t := 1) hW1 (by omega) (by omega) (by omega) (fun μ' ⟨S', T', hW'⟩ => kk 1 μ' (fun Km km => ?_))
    refine n2 _ (bn_t (oI_some (by omega)) ⟨vp_in_nI (by omega) (by decide), ?_⟩)
    rw [show (oI (some w)).toNatClampNeg = w from nI_clamp (by omega)]
    refine nm_e ?_
    exact w_didm (t := 1) hW1 (by omega) (by omega) (by omega) (km _ (hW'.Z (by omega)))
theorem p_get (h : ZZ k ν μ) (hk : k < 512) (a1 a2 : Int32) : PP k (f_Bh_get μ a1 a2) (f_Mo_get ν a1 a2) := by
  intro G kk
  obtain ⟨pg, S, T, hW⟩ := ZZ_W.mp h
  obtain ⟨a, c, hJ, hR, -⟩ := id hW
  have g2 := hJ.1.1.2.1
  obtain ⟨res, n1, n2, n3⟩ := numAt hJ hR a1 a2
  cases res with
  | none =>
    refine n1 _ (bn_f rfl (kk 0 μ (fun Km km => ?_)))
    exact n2 _ (bn_f rfl (km ν h.up))
  | some w =>
    have hw := n3 w rfl
    have w1 := hw.1
    refine n1 _ (bn_t (oI_some (by omega)) ?_)
    refine k_word hR.1.1 g2 hw.1 ?_
    rw [hR.1.2.2.1 w hw.2.1]
    refine w_didk (t := 1) hW (by omega) (by omega) (by omega) (fun μ' ⟨S', T', hW'⟩ => kk _ μ' (fun Km km => ?_))
    refine n2 _ (bn_t (oI_some (by omega)) ⟨vp_in_nI (by omega) (by decide), ?_⟩)
    rw [show (oI (some w)).toNatClampNeg = w from nI_clamp (by omega)]
    intro x5 e5
    subst e5
    exact w_didm (t := 1) hW (by omega) (by omega) (by omega) (km _ (hW'.Z (by omega)))
/-- what stands at a pointer's place -/
theorem ptr_v {e pg w : Nat} {S T : Nat → Prop} (hJ : JJ ν pg S T e) (hw : okP ν S T w) : w < 64 * pg ∧ w < 4096 ∧ ((ν 20 w = 0 ∧ ν 20 w - 1 = -1) ∨ ∃ t : Nat, t < 4096 ∧ ν 20 w = nI (t + 1) ∧ ν 20 w - 1 = nI t ∧ S t ∧ ob ν t ∧ T t) := by
  obtain ⟨a, i, h1, h2, h3, h4, h5, rfl⟩ := hw
  obtain ⟨p24, p31, p64, p4, p96, pa, pbs⟩ := ob_ptn hJ.1 h1
  refine ⟨by omega, by omega, ?_⟩
  rcases hJ.2.2.2.2.1.2.2.1 a h3 h1 (i + 1) (by omega) (by omega) with z | ⟨t, z1, z2, z3, z4, -⟩
  · left
    rw [z]; exact ⟨rfl, by decide⟩
  · right
    refine ⟨t, z3, z1, by rw [z1, nI_pm], z2, z4 h2, ?_⟩
    rcases hJ.2.2.2.2.2.2.2 a h4 h1 (i + 1) (by omega) (by omega) with y | ⟨t', y1, y2, y3⟩
    · rw [z1] at y; exact absurd y.1 (nI_nz (by omega))
    · rw [z1, nI_eq (by omega) (by omega)] at y1
      have : t = t' := by omega
      rw [this]; exact y2
theorem WW.link {A w pg : Nat} {S T : Nat → Prop} {v : Int32} (h : WW 16 A ν μ pg S T) (hw : okP ν S T w) (hv : v = 0 ∨ ∃ t : Nat, v = nI (t + 1) ∧ S t ∧ ob ν t ∧ T t) {μ' : zM} (r1 : RA (g_before ν (ν 20 w - 1)) μ' pg) (r2 : μ' 1 8 = μ 1 8) : WW 16 A (zp (g_before ν (ν 20 w - 1)) 20 w v) (zp μ' 3 w v) pg S T := by
  obtain ⟨a, c, hJ, hR, hZ, hK, hC, ha, hc⟩ := h
  obtain ⟨v1, v2, v3⟩ := ptr_v hJ hw
  obtain ⟨J1, J2⟩ := J_before (x := ν 20 w - 1) hJ (v3.elim (fun q => Or.inl q.2) (fun ⟨t, q1, q2, q3, q4, q5, q6⟩ => Or.inr ⟨t, q3, q4, q5⟩))
  obtain ⟨k13, k26, k22, k20, k24, k25, k21, -⟩ := bef_keep (ν := ν) (x := ν 20 w - 1)
  obtain ⟨b, i, h1, h2, h3, h4, h5, h6⟩ := hw
  have hob : ∀ t, ob (g_before ν (ν 20 w - 1)) t ↔ ob ν t := fun t => by unfold ob; rw [k22]
  have hpt : ∀ t, ptn (g_before ν (ν 20 w - 1)) t = ptn ν t := fun t => by unfold ptn; rw [k24]
  obtain ⟨p24, p31, p64, p4, p96, pa, pbs⟩ := ob_ptn hJ.1 h1
  obtain ⟨bc, bm⟩ := hJ.1.al h1.1 h1.nz
  have uni : ∀ a' i', ob (g_before ν (ν 20 w - 1)) a' → 1 ≤ i' → i' ≤ ptn (g_before ν (ν 20 w - 1)) a' → a' + i' = w → a' = b := fun a' i' q1 q2 q3 q4 => by
    rw [hob] at q1
    rw [hpt] at q3
    obtain ⟨c1, c2⟩ := hJ.1.al q1.1 q1.nz
    have c3 := (ob_ptn hJ.1 q1).2.2.2.2.2.2
    exact blk_dis (i := i') c2 c1 bm bc (by omega) (by omega) (by omega)
  refine ⟨a, c, ?_, RA_wr r1, ZC_bef hZ r2, IK_bef hK, CB_bef hC, ha, hc.1, hc.2.eq (H_before (ν := ν) (x := ν 20 w - 1))⟩
  refine J_wr (b := b) J1 h1.1 (by rw [k22]; exact h1.nz) (by omega) (by rw [k21]; omega) (fun a' i' q0 q1 q2 q3 q4 => ?_) (fun a' i' q0 q1 q2 q3 q4 => ?_) (fun hp a' i' u q1 q2 q3 q4 hu q5 => ?_)
  · have := uni a' i' q1 q2 q3 q4
    subst this
    rcases hv with hv | ⟨t, s1, s2, s3, s4⟩
    · exact Or.inl hv
    · exact Or.inr ⟨t, s1, s2, s3.1, fun _ => (hob t).mpr s3, fun z => by rw [k22, h2] at z; exact absurd z (by decide)⟩
  · have := uni a' i' q1 q2 q3 q4
    subst this
    rcases hv with hv | ⟨t, s1, s2, s3, s4⟩
    · exact Or.inl ⟨hv, by rw [k22, h2]; decide⟩
    · exact Or.inr ⟨t, s1, s4, s3.1⟩
  · rw [k13] at hp
    rw [k20] at q5
    exact J2 hp u hu (by rw [q5, nI_pm])
theorem p_link (h : ZZ k ν μ) (hk : k < 512) (a1 a2 a3 : Int32) : PP k (f_Bh_link μ a1 a2 a3) (f_Mo_link ν a1 a2 a3) := by
  intro G kk
  obtain ⟨pg, S, T, hW⟩ := ZZ_W.mp h
  obtain ⟨a, c, hJ, hR, -⟩ := id hW
  have g2 := hJ.1.1.2.1
  obtain ⟨res, n1, n2, n3⟩ := ptrAt hJ hR a1 a2
  cases res with
  | none =>
    refine n1 _ (br_t rfl (kk 0 μ (fun Km km => ?_)))
    exact n2 _ (br_t rfl (km ν h.up))
  | some w =>
    have hw := n3 w rfl
    obtain ⟨v1, v2, v3⟩ := ptr_v hJ hw
    obtain ⟨n, hn, hpb, hnn, -⟩ := IP.pb hJ.1 hJ.2.2.1
    have hle := hpb.1
    have hx : ν 20 w - 1 = -1 ∨ ∃ t : Nat, ν 20 w - 1 = nI t ∧ ob ν t := v3.elim (fun q => Or.inl q.2) (fun ⟨t, q1, q2, q3, q4, q5, q6⟩ => Or.inr ⟨t, q3, q5⟩)
    have hcw : (oI (some w)).toNatClampNeg = w := nI_clamp (by omega)
    obtain ⟨k13, k26, k22, k20, k24, k25, k21, -⟩ := bef_keep (ν := ν) (x := ν 20 w - 1)
    -- the class's road, with a value
    have cl : ∀ (v : Int32), (v + 1 = 0 ∨ ∃ t : Nat, v + 1 = nI (t + 1) ∧ S t ∧ ob ν t ∧ T t) → (∀ (μ7 : zM) (K : Int32 → zM → Prop), RA (g_before ν (ν 20 w - 1)) μ7 pg → K v μ7 → f_Bh_rootOrNone μ7 a3 K) → (∀ Km : zM → Prop, (∀ (ν' : zM), Km ν') → True) →
        (∀ μ' : zM, (∃ S' T' : Nat → Prop, WW 16 (1000 * k + 1) (g_did (zp (g_before ν (ν 20 w - 1)) 20 w (v + 1)) pg 1) μ' pg S' T') → WW 16 (1000 * k) (zp (g_before ν (ν 20 w - 1)) 20 w (v + 1)) (zp μ' 3 w (v + 1)) pg S T ∨ True → (∀ Km : zM → Prop, Km (g_did (zp (g_before ν (ν 20 w - 1)) 20 w (v + 1)) pg 1) → f_Mo_did (zp (g_before ν (ν 20 w - 1)) 20 w (v + 1)) 1 Km) → G 1 μ') →
        f_Bk_pointerAt μ (oI (some w)) (fun r6 μ5 => (f_Co_greyOld μ5 r6 (fun μ7 => (f_Bh_rootOrNone μ7 a3 (fun r9 μ8 => (f_Bk_setPointer μ8 (oI (some w)) r9 (fun μ10 => (f_Co_spend μ10 (1 : Int32) (fun μ11 => (G (1 : Int32) μ11)))))))))) := by
      intro v hv hro _ gg
      refine k_ptrAt hR.1.1 g2 v1 ?_
      rw [hR.1.2.2.1 w v2]
      refine k_old hJ.1 hR hx hn hpb (fun μ7 r1 r2 => ?_)
      refine hro μ7 _ r1 ?_
      refine k_setPtr r1.1.1 g2 v1 ?_
      have hW1 := hW.link hw hv r1 r2
      refine w_didk (t := 1) hW1 (by omega) (by omega) (by omega) (fun μ' q => gg μ' q (Or.inr trivial) (fun Km km => ?_))
      exact w_didm (t := 1) hW1 (by omega) (by omega) (by omega) km
    have hx' : ν 20 w - 1 = -1 ∨ ∃ t : Nat, ν 20 w - 1 = nI t ∧ t < 4096 := hx.imp id (fun ⟨t, q1, q2⟩ => ⟨t, q1, q2.1⟩)
    refine n1 _ (br_f (oI_some (by omega)) ?_)
    refine ⟨fun e3 => ?_, fun e3 => ?_⟩
    · refine cl (-1) (Or.inl (by decide)) (fun μ7 K r1 kK => ?_) (fun _ _ => trivial) (fun μ' q _ dd => kk 1 μ' (fun Km km => ?_))
      · rw [e3]
        exact k_rootN (fun r hr e => absurd e.symm (nI_m1 (by omega))) (fun _ => kK)
      · obtain ⟨S', T', hW'⟩ := q
        refine n2 _ (br_f (oI_some (by omega)) (br_t e3 ⟨vp_in_nI (by omega) (by decide), ?_⟩))
        rw [hcw]
        refine m_before hx' hn (by omega) (bn_f e3 ⟨vp_in_nI (by omega) (by decide), ?_⟩)
        refine nm_e ?_
        exact dd _ (km _ (hW'.Z (by omega)))
    · refine k_isRootA (fun r hr er => bn_t (by decide) ?_) (fun hno => bn_f rfl (kk 0 μ (fun Km km => ?_)))
      · have hcr : a3.toNatClampNeg = r := by rw [er]; exact nI_clamp (by omega)
        refine cl (ν 26 r) ?_ (fun μ7 K r1 kK => ?_) (fun _ _ => trivial) (fun μ' q _ dd => kk 1 μ' (fun Km km => ?_))
        · rcases hJ.root hr with z | ⟨t, z1, z2, z3⟩
          · left; rw [z]; decide
          · right
            refine ⟨t, by rw [z1, nI_1], z2, z3, ?_⟩
            have := z3.1
            rcases hJ.2.2.2.2.2.2.1 r hr (by omega) with y | ⟨t', y1, y2, y3⟩
            · rw [z1] at y; exact absurd y (nI_m1 (by omega))
            · rw [z1, nI_eq (by omega) (by omega)] at y1
              rw [y1]; exact y2
        · refine k_rootN (fun r' hr' e => ?_) (fun hno => ?_)
          · rw [er, nI_eq (by omega) (by omega)] at e
            rw [← e, r1.2.2.1 r hr, k26]; exact kK
          · rw [er, ti_n (by omega)] at hno; omega
        · obtain ⟨S', T', hW'⟩ := q
          refine n2 _ (br_f (oI_some (by omega)) (br_f e3 ?_))
          refine m_isRootA (fun r' hr' e => bn_t (by decide) ⟨vp_in_nI (by omega) (by decide), ?_⟩) (fun hno => ?_)
          · rw [hcw, hcr]
            refine m_before hx' hn (by omega) (bn_t e3 ⟨by rw [er]; exact vp_in_nI hr (by decide), vp_in_nI (by omega) (by decide), ?_⟩)
            rw [k26]
            refine nm_e ?_
            exact dd _ (km _ (hW'.Z (by omega)))
          · rw [er, ti_n (by omega)] at hno; omega
      · refine n2 _ (br_f (oI_some (by omega)) (br_f e3 ?_))
        refine m_isRootA (fun r' hr' e => ?_) (fun _ => bn_f rfl (km ν h.up))
        rw [e, ti_n (by omega)] at hno; omega
/-- a root gets a value, and a tick -/
theorem w_root {A r pg : Nat} {S T : Nat → Prop} {x : Int32} {G : zM → Prop} (hW : WW 16 A ν μ pg S T) (hA : A ≤ 600000) (hr : r < 16) (hx : x = -1 ∨ ∃ t : Nat, x = nI t ∧ S t ∧ ob ν t ∧ T t)
    (g : ∀ μ' : zM, (∀ Km : zM → Prop, (∀ ν' : zM, (∃ S' T' : Nat → Prop, WW 16 (A + 1) ν' μ' pg S' T') → Km ν') → f_Mo_setRoot ν (nI r) x (fun ν4 => f_Mo_did ν4 (1 : Int32) Km)) → G μ') : f_Bh_setRoot μ (nI r) x (fun μ4 => f_Co_spend μ4 (1 : Int32) G) := by
  obtain ⟨a, c, hJ, hR, hZ, hK, hC, ha, hc⟩ := id hW
  obtain ⟨n, hn, hpb, hnn, -⟩ := IP.pb hJ.1 hJ.2.2.1
  have hle := hpb.1
  have hrt := hJ.root hr
  refine k_setRoot hJ.1 hR hr (hrt.imp id (fun ⟨t, q1, _, q3⟩ => ⟨t, q1, q3⟩)) hn hpb (fun μ1 r1 r2 => ?_)
  have hJ1 := J_setRoot hJ hr (hx.imp id (fun ⟨t, q1, q2, q3, q4⟩ => ⟨t, q1, q2, q3, fun _ => q4⟩))
  have hW1 : WW 16 A (g_setRoot ν r x) μ1 pg S T := ⟨a, c, hJ1, r1, ZC_bef hZ r2, IK_bef hK, CB_bef hC, ha, hc.1, hc.2.eq (H_before (ν := ν) (x := ν 26 r))⟩
  refine w_didk (t := 1) hW1 (by omega) (by omega) hA (fun μ' q => g μ' (fun Km km => ?_))
  refine m_setRoot hr (hrt.imp id (fun ⟨t, q1, _, q3⟩ => ⟨t, q1, q3.1⟩)) hn (by omega) ?_
  exact w_didm (t := 1) hW1 (by omega) (by omega) hA (km _ q)
theorem p_follow (h : ZZ k ν μ) (hk : k < 512) (a1 a2 a3 : Int32) : PP k (f_Bh_follow μ a1 a2 a3) (f_Mo_follow ν a1 a2 a3) := by
  intro G kk
  obtain ⟨pg, S, T, hW⟩ := ZZ_W.mp h
  obtain ⟨a, c, hJ, hR, -⟩ := id hW
  have g2 := hJ.1.1.2.1
  obtain ⟨res, n1, n2, n3⟩ := ptrAt hJ hR a1 a2
  cases res with
  | none =>
    refine n1 _ (br_t rfl (kk 0 μ (fun Km km => ?_)))
    exact n2 _ (br_t rfl (km ν h.up))
  | some w =>
    have hw := n3 w rfl
    obtain ⟨v1, v2, v3⟩ := ptr_v hJ hw
    have hcw : (oI (some w)).toNatClampNeg = w := nI_clamp (by omega)
    refine n1 _ (br_f (oI_some (by omega)) ?_)
    refine k_isRootA (fun r hr er => bn_t (by decide) ?_) (fun hno => bn_f rfl (kk 0 μ (fun Km km => ?_)))
    · refine k_ptrAt hR.1.1 g2 v1 ?_
      rw [hR.1.2.2.1 w v2, er]
      refine w_root hW (by omega) hr (v3.elim (fun q => Or.inl q.2) (fun ⟨t, q1, q2, q3, q4, q5, q6⟩ => Or.inr ⟨t, q3, q4, q5, q6⟩)) (fun μ' gg => kk 1 μ' (fun Km km => ?_))
      rw [er]
      refine n2 _ (br_f (oI_some (by omega)) ?_)
      refine m_isRootA (fun r' hr' e => bn_t (by decide) ⟨vp_in_nI (by omega) (by decide), ?_⟩) (fun hno => ?_)
      · rw [hcw]
        exact gg _ (fun ν' ⟨S', T', hW'⟩ => km ν' (hW'.Z (by omega)))
      · rw [ti_n (by omega)] at hno; omega
    · refine n2 _ (br_f (oI_some (by omega)) ?_)
      refine m_isRootA (fun r' hr' e => ?_) (fun _ => bn_f rfl (km ν h.up))
      rw [e, ti_n (by omega)] at hno; omega
theorem p_move (h : ZZ k ν μ) (hk : k < 512) (a1 a2 : Int32) : PP k (f_Bh_move μ a1 a2) (f_Mo_move ν a1 a2) := by
  intro G kk
  obtain ⟨pg, S, T, hW⟩ := ZZ_W.mp h
  obtain ⟨a, c, hJ, hR, -⟩ := id hW
  refine k_isRootA (fun r hr er => br_f (by decide) ?_) (fun hno => br_t rfl (kk 0 μ (fun Km km => ?_)))
  · refine k_isRootA (fun r2 hr2 er2 => bn_t (by decide) ?_) (fun hno => bn_f rfl (kk 0 μ (fun Km km => ?_)))
    · subst er er2
      rw [nI_clamp (by omega), hR.2.2.1 r hr]
      refine ⟨vp_in_nI hr (by decide), ?_⟩
      refine w_root hW (by omega) hr2 ?_ (fun μ' gg => kk 1 μ' (fun Km km => ?_))
      · rcases hJ.root hr with z | ⟨t, z1, z2, z3⟩
        · exact Or.inl z
        · right
          refine ⟨t, z1, z2, z3, ?_⟩
          have := z3.1
          rcases hJ.2.2.2.2.2.2.1 r hr (by omega) with y | ⟨t', y1, y2, y3⟩
          · rw [z1] at y; exact absurd y (nI_m1 (by omega))
          · rw [z1, nI_eq (by omega) (by omega)] at y1
            rw [y1]; exact y2
      · refine m_isRootA (fun _ _ _ => br_f (by decide) ?_) (fun hno => by rw [ti_n (by omega)] at hno; omega)
        refine m_isRootA (fun _ _ _ => bn_t (by decide) ⟨vp_in_nI hr (by decide), ?_⟩) (fun hno => by rw [ti_n (by omega)] at hno; omega)
        rw [nI_clamp (by omega)]
        exact gg _ (fun ν' ⟨S', T', hW'⟩ => km ν' (hW'.Z (by omega)))
    · refine m_isRootA (fun _ _ _ => br_f (by decide) ?_) (fun hno => by rw [er, ti_n (by omega)] at hno; omega)
      exact m_isRootA (fun _ _ e => by rw [e, ti_n (by omega)] at hno; omega) (fun _ => bn_f rfl (km ν h.up))
  · exact m_isRootA (fun _ _ e => by rw [e, ti_n (by omega)] at hno; omega) (fun _ => br_t rfl (km ν h.up))
theorem p_drop (h : ZZ k ν μ) (hk : k < 512) (a1 : Int32) : PP k (f_Bh_drop μ a1) (f_Mo_drop ν a1) := by
  intro G kk
  obtain ⟨pg, S, T, hW⟩ := ZZ_W.mp h
  obtain ⟨a, c, hJ, hR, -⟩ := id hW
  refine k_isRootA (fun r hr er => bn_t (by decide) ?_) (fun hno => bn_f rfl (kk 0 μ (fun Km km => ?_)))
  · subst er
    refine w_root hW (by omega) hr (Or.inl rfl) (fun μ' gg => kk 1 μ' (fun Km km => ?_))
    refine m_isRootA (fun _ _ _ => bn_t (by decide) ?_) (fun hno => by rw [ti_n (by omega)] at hno; omega)
    exact gg _ (fun ν' ⟨S', T', hW'⟩ => km ν' (hW'.Z (by omega)))
  · exact m_isRootA (fun _ _ e => by rw [e, ti_n (by omega)] at hno; omega) (fun _ => bn_f rfl (km ν h.up))
end CALLS
