theorem r_rests {B : Nat} {P : Pm} {rc p : Nat} {x : Int32} {s τ υ : Mm} (hB : B < 800000) (hυ : Ivx B P rc s υ) (e : υ = zst τ 703 0 0) (h0 : 0 < pn P) (h3 : pn P ≤ 3) (hb : s 0 0 = nI (p - 1)) (hp0 : 0 < p) (hp21 : p ≤ 21) (hx : -1 ≤ x) :
    Ok (zfX12_rest x τ) (fun b => b.1 = (if x = -1 then nI (fo (rsp P s p x) 0 (p ^ pn P) (0, -1)).1 else (fo (rsp P s p x) 0 (p ^ pn P) (0, -1)).2) ∧ FrS υ b.2) := by
  have hB9 : B < 900000 := by omega
  have hpw := pow_rows hp21 h3
  have hs := hυ.ks hB9
  have hn := hυ.n
  have hm6 := hυ.2.1.1.2.1
  have hRR : RRs P υ s := by have := hυ.2.2.2.2.1.1.2.1; rw [wr_self] at this; exact this
  unfold zfX12_rest
  refine ok_lg (fun υ' e' => ?_)
  have : υ' = υ := e'.trans e.symm
  subst this
  refine ok_lg (fun J hJ => ?_)
  rw [if_neg (fun c => (g_mk hυ).2.mp c h0), hn.2.2, if_pos (show nI (pn P) ≤ 3 by rw [show (3 : Int32) = nI 3 from rfl, n_le (by omega) (by omega)]; exact h3), if_pos hx]
  refine rq_keptb hB9 hυ h0 (fun τ1 k1 k2 k3 => ?_)
  refine ok_lg (fun τ2 e2 => ?_)
  refine ok_lg (fun τ3 e3 => ?_)
  refine ok_lg (fun τ4 e4 => ?_)
  have kb := k1.t0 hυ.2.1
  have kb4 : Kb (tellP P (fun _ => -1)) rc s υ' τ4 := by
    rw [e4, e3, e2]
    exact ((kb.z (by omega)).z (by omega)).z (by omega)
  have v57 : τ4 703 57 = nI 0 := by rw [e4, zst_k (by omega), e3, zst_k (by omega), e2, zst_v]; rfl
  have v58 : τ4 703 58 = x := by rw [e4, zst_k (by omega), e3, zst_v]
  have v59 : τ4 703 59 = -1 := by rw [e4, zst_v]
  have v41 : τ4 703 41 = s 0 3 := by rw [e4, zst_k (by omega), e3, zst_k (by omega), e2, zst_k (by omega)]; exact k2
  rw [ok_bd]
  refine ok_mono (r_goR (w := x) hs h3 hb hp0 hp21 (by rw [hRR.2.1]; exact hb) (pn P) RD 0 0 0 (-1) _ τ4 (by omega) (by unfold RD; omega) (by rw [Nat.pow_zero]; omega) (fun k' hk' => absurd hk' (Nat.not_lt_zero k')) kb4 (fun k' hk' => absurd hk' (Nat.not_lt_zero k')) v41 v57 v58 v59 (by omega)) (fun φ hφ => ?_)
  obtain ⟨⟨f', d1, d2⟩, d3, d4, d5, d6⟩ := hφ
  rw [Nat.zero_mul] at d5 d6
  have f0 : FrT (zst φ 703 41 (s 0 3)) φ := by rw [← d3]; exact FrT.v0
  rw [ok_bd]
  refine ok_mono (Kb.back (P := tellP P f') hn.1 hm6 d1 f0) (fun ψ hψ => ?_)
  obtain ⟨m1, m2, m3⟩ := hψ
  rw [ok_bd]
  refine ok_mono r_plainly (fun ω hω => ?_)
  obtain ⟨w1, w2, w3, w4, w5, w6, w7⟩ := hω
  have fr2 := m1.1.pl w4 w7
  by_cases c : x = -1
  · rw [if_pos c, if_pos c, ok_s]
    exact ⟨by dsimp only; rw [w4 57 (by omega) (by omega) (by omega), m3 703 (by omega)]; exact d5, fr2⟩
  · rw [if_neg c, if_neg c, ok_s]
    exact ⟨by dsimp only; rw [w4 59 (by omega) (by omega) (by omega), m3 703 (by omega)]; exact d6, fr2⟩
theorem q_rest {B : Nat} (hB : B < 800000) (x : Int32) : Qy B (zfX11_rest x) (zfX12_rest x) := by
  refine q_pure (fun P rc s σ hI => ?_)
  have hB9 : B < 900000 := by omega
  have hn := hI.n
  have hb := hI.st.2.1.1
  obtain ⟨p, hp⟩ : ∃ p, p = ix (s 0 0) + 1 := ⟨_, rfl⟩
  have hp0 : 0 < p := by omega
  have hp21 : p ≤ 21 := by have := hb.2; omega
  have hbp : s 0 0 = nI (p - 1) := by rw [hp, Nat.add_sub_cancel]; exact hb.1
  -- no market, or too many sellers
  have hid : ¬ (0 < pn P ∧ pn P ≤ 3) → ∀ υ, Ivx B P rc s υ → υ = zst σ 703 0 0 → Ok (zfX12_rest x σ) (fun b => b.1 = -1000000 ∧ FrS υ b.2) := fun hno υ hυ e => by
    unfold zfX12_rest
    refine ok_lg (fun υ' e' => ?_)
    have : υ' = υ := e'.trans e.symm
    subst this
    refine ok_lg (fun J hJ => ?_)
    have fin : Ok (J υ') (fun b => b.1 = -1000000 ∧ FrS υ' b.2) := by simp only [hJ]; rw [ok_s]; exact ⟨rfl, FrS.refl⟩
    by_cases c0 : 0 < pn P
    · rw [if_neg (fun c => (g_mk hυ).2.mp c c0), hυ.n.2.2, if_neg (show ¬ nI (pn P) ≤ 3 by rw [show (3 : Int32) = nI 3 from rfl, n_le (by omega) (by omega)]; omega)]
      exact fin
    · rw [if_pos ((g_mk hυ).2.mpr c0)]; exact fin
  unfold zfX11_rest
  refine ok_lg (fun J hJ => ?_)
  by_cases c0 : 0 < pn P
  case neg =>
    rw [if_neg (fun c => c0 ((g_mk hI).1.mp c))]
    simp only [hJ]
    rw [ok_s]
    exact ⟨FrS.refl, hid (fun h => c0 h.1)⟩
  case pos =>
  rw [if_pos ((g_mk hI).1.mpr c0), hn.2.1]
  by_cases c3 : pn P ≤ 3
  case neg =>
    rw [if_neg (show ¬ nI (pn P) ≤ 3 by rw [show (3 : Int32) = nI 3 from rfl, n_le (by omega) (by omega)]; omega)]
    simp only [hJ]
    rw [ok_s]
    exact ⟨FrS.refl, hid (fun h => c3 h.2)⟩
  case pos =>
  rw [if_pos (show nI (pn P) ≤ 3 by rw [show (3 : Int32) = nI 3 from rfl, n_le (by omega) (by omega)]; exact c3)]
  have hpw := pow_rows hp21 c3
  refine ok_lg (fun J2 hJ2 => ?_)
  by_cases c1 : x < -1
  · rw [if_pos c1]
    simp only [hJ2]
    rw [ok_s]
    refine ⟨FrS.refl, fun υ hυ e => ?_⟩
    dsimp only at e ⊢
    unfold zfX12_rest
    refine ok_lg (fun υ' e' => ?_)
    have : υ' = υ := e'.trans e.symm
    subst this
    refine ok_lg (fun J3 _ => ?_)
    rw [if_neg (fun c => (g_mk hυ).2.mp c c0), hυ.n.2.2, if_pos (show nI (pn P) ≤ 3 by rw [show (3 : Int32) = nI 3 from rfl, n_le (by omega) (by omega)]; exact c3), if_neg (i_nle.mpr c1), ok_s]
    exact ⟨rfl, FrS.refl⟩
  · have hx1 : (-1 : Int32) ≤ x := i_nlt.mp c1
    have hx1' : -1 ≤ x.toInt := by
      rw [Int32.le_iff_toInt_le] at hx1
      have e : (-1 : Int32).toInt = -1 := by decide
      omega
    rw [if_neg c1]
    have hxn : x ≠ -1 → ∃ i, x = nI i ∧ i < 2147483648 := fun h => by
      have h0 : 0 ≤ x.toInt := by
        rcases Int.lt_or_le x.toInt 0 with g | g
        · have : x.toInt = (-1 : Int32).toInt := by rw [show (-1 : Int32).toInt = -1 by decide]; omega
          exact absurd (Int32.toInt_inj.mp this) h
        · exact g
      exact ⟨ix x, n_of h0, ix_b⟩
    by_cases c2 : x < 9261
    case neg =>
      rw [if_neg c2]
      simp only [hJ2]
      rw [ok_s]
      refine ⟨FrS.refl, fun υ hυ e => ?_⟩
      dsimp only at e ⊢
      refine ok_mono (r_rests hB hυ e c0 c3 hbp hp0 hp21 hx1) (fun b hb2 => ?_)
      obtain ⟨g1, g2⟩ := hb2
      refine ⟨?_, g2⟩
      have hne : x ≠ -1 := fun h => c2 (by rw [h]; decide)
      obtain ⟨i, rfl, hi⟩ := hxn hne
      have hi9 : 9261 ≤ i := by
        rw [show (9261 : Int32) = nI 9261 from rfl, n_lt hi (by omega)] at c2; omega
      rw [g1, if_neg hne]
      have hle := rsp_le (P := P) (s := s) (p := p) (x := 0) (w := nI i) (r := (0, (-1 : Int32))) (p ^ pn P)
      exact (rsp_v (a := -1) (b := -1) hi (p ^ pn P) (by omega)).2.2 (by dsimp only at hle; omega)
    case pos =>
    rw [if_pos c2, ok_bd2]
    refine ok_mono (c_rests hB9 hI c0 c3 hbp hp0 hp21) (fun a ha => ?_)
    obtain ⟨fr, v0, a1, a2⟩ := ha
    have hle := rsp_le (P := P) (s := s) (p := p) (x := 0) (w := x) (r := (0, v0)) (p ^ pn P)
    have yes : ∀ v : Int32, v = (if x = -1 then nI (fo (rsp P s p x) 0 (p ^ pn P) (0, -1)).1 else (fo (rsp P s p x) 0 (p ^ pn P) (0, -1)).2) → ∀ υ, Ivx B P rc s υ → υ = zst a.2 703 0 0 → Ok (zfX12_rest x a.2) (fun b => b.1 = v ∧ FrS υ b.2) := fun v hv υ hυ e => by
      refine ok_mono (r_rests hB hυ e c0 c3 hbp hp0 hp21 hx1) (fun b hb2 => ⟨by rw [hb2.1, hv], hb2.2⟩)
    by_cases c4 : x = -1
    · rw [if_pos c4, ok_s]
      refine ⟨fr, yes _ ?_⟩
      rw [if_pos c4]
      dsimp only
      rw [a1, rsp_c (b := -1)]
    · rw [if_neg c4]
      obtain ⟨i, rfl, hi⟩ := hxn c4
      obtain ⟨r1, r2, r3⟩ := rsp_v (P := P) (s := s) (p := p) (x := 0) (a := v0) (b := -1) hi (p ^ pn P) (by omega)
      dsimp only at hle
      rw [a1]
      by_cases c5 : (fo (rsp P s p (nI i)) 0 (p ^ pn P) (0, v0)).1 ≤ i
      · rw [if_pos (by rw [n_le (by omega) hi]; exact c5), ok_s]
        refine ⟨fr, yes _ ?_⟩
        rw [if_neg c4]
        exact (r3 c5).symm
      · rw [if_neg (by rw [n_le (by omega) hi]; exact c5), ok_s]
        refine ⟨fr, yes _ ?_⟩
        rw [if_neg c4]
        dsimp only
        rw [a2]
        exact r2 (by omega)
