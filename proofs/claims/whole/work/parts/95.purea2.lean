/-! ===== feed ===== -/
theorem q_feed {B : Nat} (x1 x2 x3 x4 x5 : Int32) : Qy B (zfX11_feed x1 x2 x3 x4 x5) (zfX12_feed x1 x2 x3 x4 x5) := by
  rintro σ ⟨P, rc, s, hI⟩
  obtain ⟨n, t, h1, h2, h3, h4, h5⟩ := id hI.1
  have hc := c_feed x1 x2 x3 x4 x5 h2 h1
  by_cases c : n + (bys x1).length + (bys x2).length + (bys x3).length + (bys x4).length + (bys x5).length ≤ 160
  case neg =>
    rw [if_neg c] at hc
    rw [hc, ok_s]
    have hr := r_feed x1 x2 x3 x4 x5 h3 h1
    rw [if_neg c] at hr
    dsimp only
    rw [hr, ok_s]
    exact ⟨rfl, Iv.up ⟨P, rc, s, hI.z0⟩ (by omega)⟩
  case pos =>
  rw [if_pos c] at hc
  refine ok_mono hc (fun a ha => ?_)
  obtain ⟨b1, b2, b3, b4, b5⟩ := ha
  have hr := r_feed x1 x2 x3 x4 x5 (σ := a.2) (n := n) (by rw [b4 703 (by omega) (by omega)]; exact h3) h1
  rw [if_pos c] at hr
  refine ok_mono hr (fun b hb => ?_)
  obtain ⟨d1, d2, d3, d4, d5⟩ := hb
  have hT : Tp (σ 2) (σ 704) n := fun k hk => by rw [(h4 k hk).2.2]; exact h5 k hk
  have hT5 := ((((hT.app x1).app x2).app x3).app x4).app x5
  rw [b4 704 (by omega) (by omega)] at d3
  rw [← b3, ← d3] at hT5
  have q : ∀ c, c ≠ 1 → c ≠ 2 → c ≠ 703 → c ≠ 704 → b.2 c = σ c := fun c e1 e2 e3 e4 => by rw [d4 c e3 e4, zst_n e3, b4 c e1 e2]
  have q7 : ∀ k, k ≠ 0 → k ≠ 6 → b.2 703 k = σ 703 k := fun k e1 e2 => by rw [d5 k e2, zst_k e1, b4 703 (by omega) (by omega)]
  have e1 : b.2 1 = a.2 1 := by rw [d4 1 (by omega) (by omega), zst_n (by omega)]
  have e2 : b.2 2 = a.2 2 := by rw [d4 2 (by omega) (by omega), zst_n (by omega)]
  refine ⟨by rw [d1, b1], Iv.up ⟨P, rc, s, hI.chg (fun c hc => q c (by omega) (by omega) (by omega) (by omega)) ⟨by rw [q 0 (by omega) (by omega) (by omega) (by omega)], by rw [q 0 (by omega) (by omega) (by omega) (by omega)]⟩ (fun k hk => q7 k (by omega) (by omega)) ⟨_, a.2 2, c, by rw [e1]; exact b2, d2, fun k hk => ?_, hT5⟩ (IvW.of hI.2.2.2.2.1 (fun c hc => q c (by omega) (by omega) (by omega) (by omega)) (fun k hk => q7 k (by omega) (by omega))) ⟨by rw [q 0 (by omega) (by omega) (by omega) (by omega), q7 33 (by omega) (by omega)]; exact hI.2.2.2.2.2.1.1, by rw [q 0 (by omega) (by omega) (by omega) (by omega)]; exact hI.2.2.2.2.2.1.2⟩⟩ (by omega)⟩
  have := tp_in (hT5 k hk).1
  exact ⟨this.1, this.2, by rw [e2]⟩
