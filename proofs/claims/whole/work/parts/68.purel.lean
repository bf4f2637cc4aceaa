/-! ===== a day of the reference, whole ===== -/
/-- the reference's market holds a state -/
def RRs (P : Pm) (σ s : Mm) : Prop := (∀ k, k < pn P → σ 714 k = s 1 k ∧ σ 714 (6 + k) = s 2 k ∧ σ 714 (12 + k) = s 3 k ∧ σ 714 (18 + k) = s 4 k ∧ σ 714 (24 + k) = s 5 k) ∧ σ 714 54 = s 0 0 ∧ σ 714 55 = s 0 2 ∧ σ 714 56 = s 0 1 ∧
  (∀ i k, i < pm P → k < 4 → σ 714 (30 + (4 * i + k)) = if k < pwa P i then s 7 (4 * i + (pwa P i - k)) else 0) ∧ (∀ j, 4 * pm P ≤ j → j < 24 → σ 714 (30 + j) = 0)
/-- what the reference goes by -/
def PmR (P : Pm) (s σ : Mm) : Prop := σ 703 24 = nI (pn P) ∧ σ 703 25 = nI (pm P) ∧ σ 703 41 = s 0 3 ∧ σ 703 42 = pld P ∧ σ 710 1 = pfr P ∧ (∀ k, k < pn P → σ 708 (3 * k) = nI (pbr P k) ∧ σ 708 (3 * k + 1) = pco P k ∧ σ 708 (3 * k + 2) = nI (pro P k) ∧ σ 717 k = pto P k ∧ σ 716 k = s 6 k) ∧
  (∀ i, i < pm P → σ 709 (3 * i) = pwo P i ∧ σ 709 (3 * i + 1) = nI (pma P i) ∧ σ 709 (3 * i + 2) = nI (pwa P i))
def StP (P : Pm) (s σ : Mm) : Prop := (pN P = pn P ∧ σ 703 43 = 0) ∨ (pN P = pn P + 1 ∧ σ 703 43 = s 1 (pn P) ∧ σ 703 44 = pto P (pn P) ∧ pbr P (pn P) = 0)
def WFw (P : Pm) : Prop := (∀ i j, i < j → j < pm P → pwo P (pw P j) < pwo P (pw P i) ∨ pwo P (pw P i) = pwo P (pw P j) ∧ pw P i < pw P j) ∧ ∀ s, s < pm P → ∃ k, k < pm P ∧ pw P k = s
def RuR (P : Pm) (rc : Nat) (σ : Mm) : Prop := ∀ r, r < rc → ∀ τ, (∀ k, k < 160 → τ 705 (160 * r + k) = σ 705 (160 * r + k)) → LO τ → Ok (zfX12_goThrough 705 (160 * nI r) (σ 706 r) τ) (fun τ' => τ' 703 14 = pW P r (lamR τ) ∧ FrG τ τ')
theorem r_day0 {P : Pm} {f : Int32} {s σ : Mm} {rc : Nat} (hP : WFp P) (hPw : WFw P) (hs : WFs P s) (hRs : RuS P rc s) (hh : ∀ k, pn P ≤ k → k < 6 → ¬ hob (s 0 3) k) (hA : RRs P σ s) (hC : PmR P s σ) (hSt : StP P s σ) (hR : RuR P rc σ) :
    Ok (zfX12_goes f σ) (fun τ => (RRs P τ (dayS P f s) ∧ τ 703 46 = (if (dU P f s).1 = 0 then 1 else 0) ∧ (∀ k, k < pn P → τ 718 k = dA P f s k ∧ τ 719 k = nI ((dX P f s).1 k) * dA P f s k ∧ τ 720 k = nI (dG P s k)) ∧ (pn P < pN P → τ 703 45 = nI ((dX P f s).1 (pn P))) ∧
      (∀ i, i < pm P → τ 723 i = σ 723 i - s 8 i + dayS P f s 8 i ∧ τ 724 i = σ 724 i - s 9 i + dayS P f s 9 i) ∧
      (∀ x, (x < 5 ∨ x = 6 ∨ x = 7 ∨ x = 15 ∨ x = 16 ∨ 17 < x ∧ x ≠ 45 ∧ x ≠ 46) → τ 703 x = σ 703 x) ∧
      ∀ c, c ≠ 703 → c ≠ 707 → c ≠ 714 → c ≠ 718 → c ≠ 719 → c ≠ 720 → c ≠ 721 → c ≠ 722 → c ≠ 723 → c ≠ 724 → τ c = σ c) ∧ ∀ k, pn P ≤ k → k < 6 → τ 714 k = σ 714 k ∧ τ 714 (6 + k) = σ 714 (6 + k)) := by
  have hdw := dw_le (f := f) hP hs
  have hdG := dG_le (P := P) hs
  obtain ⟨p1, p2, p3, p4, p5, p6, p7, p8, p9⟩ := hP
  obtain ⟨s1, s2, s3, s4, s5, s6, s7⟩ := hs
  obtain ⟨a1, a2, a3, a4, a5, a6⟩ := hA
  obtain ⟨m1, m2, m3, m4, m5, m6, m7⟩ := hC
  obtain ⟨r1, r2, r3⟩ := hRs
  obtain ⟨w1, w2⟩ := hPw
  have hwt0 : ∀ x, x < 24 → s 7 x = nI (wt0 s x) := fun x hx => by unfold wt0; rw [if_pos hx]; exact (s5 x hx).1
  have hNn : pN P = pn P ∨ pN P = pn P + 1 := hSt.elim (fun h => Or.inl h.1) (fun h => Or.inr h.1)
  have hdw0 : ∀ i, i < pm P → dw P f s (4 * i) = (if f = 0 then pma P i else 2 * pma P i) := fun i hi => by
    unfold dw owt
    rw [if_pos ⟨by omega, by omega⟩, show 4 * i / 4 = i by omega]
  have hdwa : ∀ i a, i < pm P → 0 < a → a < 4 → dw P f s (4 * i + a) = wt0 s (4 * i + a) := fun i a hi h0 h4 => by
    unfold dw owt
    rw [if_neg (by omega)]
  have hdwz : ∀ i a, i < pm P → a < 4 → pwa P i < a → dw P f s (4 * i + a) = 0 := fun i a hi ha hw => by
    rw [hdwa i a hi (by omega) ha]
    have h1 := s6 i a hi ha (Or.inr hw)
    unfold wt0
    rw [if_pos (by omega), h1]; rfl
  unfold zfX12_goes
  refine ok_lg (fun σa hσa => ?_)
  have qa : ∀ x, x ≠ 45 → σa 703 x = σ 703 x := fun x hx => by rw [hσa, zst_k hx]
  have qa45 : σa 703 45 = 0 := by rw [hσa, zst_v]
  have qac : ∀ c, c ≠ 703 → σa c = σ c := fun c hc => by rw [hσa, zst_n hc]
  refine ok_lg (fun k105 h105 => ?_)
  refine r_open (n := pn P) (br := pbr P) (go := gd0 s) (co := pco P) p1 (by rw [qa 24 (by omega)]; exact m1) (fun k hk => ⟨by rw [qac 714 (by omega), (a1 k hk).1]; exact (s3 k (by omega)).1, (s3 k (by omega)).2⟩) (fun k hk => ⟨by rw [qac 708 (by omega)]; exact (m6 k hk).1, by have := (p5 k (by omega)).1; omega, by rw [qac 708 (by omega)]; exact (m6 k hk).2.1⟩) (fun τ1 b1 b2 b3 => ?_)
  have hG : ∀ k, k < pn P → gd0 s k + brt (pbr P) (gd0 s) k = dG P s k := fun k hk => by unfold dG; rw [if_pos (by omega)]
  simp only [h105]
  rw [b3 703 (by omega) (by omega) (by omega), qa 24 (by omega), m1, ck_t ((n_in (by omega)).mpr (by omega)), ok_lt, n_ix (by omega)]
  generalize hτ1 : zst τ1 719 (pn P) 0 = τ1'
  have e1 : ∀ c, c ≠ 719 → τ1' c = τ1 c := fun c hc => by rw [← hτ1, zst_n hc]
  have e1k : ∀ k, k < pn P → τ1' 719 k = τ1 719 k := fun k hk => by rw [← hτ1, zst_k (by omega)]
  refine ok_lg (fun k209 h209 => ?_)
  refine r_comes (m := pm P) (ma := pma P) (wa := pwa P) (f := f) (W7 := wt0 s) (dw := dw P f s) p2 (by rw [e1 703 (by omega), b3 703 (by omega) (by omega) (by omega), qa 25 (by omega)]; exact m2) (fun i hi => by rw [e1 709 (by omega), b3 709 (by omega) (by omega) (by omega), qac 709 (by omega)]; exact ⟨(m7 i hi).2.1, (m7 i hi).2.2, (p6 i hi).2.1⟩) (fun i k hi hk => ?_) hdw0 hdwa (fun τ2 c1 c2 => ?_)
  · rw [e1 714 (by omega), b2 _ (by omega), qac 714 (by omega), a5 i k hi hk]
    have := (p6 i hi).2.1
    split
    · exact hwt0 _ (by omega)
    · rfl
  rw [h209]
  refine ok_lg (fun x213 hx213 => ?_)
  have hx213 : x213 = nI (pm P) := by rw [hx213, c2 703 (by omega), e1 703 (by omega), b3 703 (by omega) (by omega) (by omega), qa 25 (by omega)]; exact m2
  subst hx213
  refine ok_lg (fun k250 h250 => ?_)
  refine r_zero p2 (fun τ3 d1 d2 d3 => ?_)
  rw [h250]
  refine ok_lg (fun k292 h292 => ?_)
  -- who comes, as counts
  have hcN : ∀ j, j < 24 → τ3 721 j = nI (if j < 4 * pm P then fK (j / 4) (pwa P (j / 4)) (j % 4) (dw P f s) else 0) := by
    intro j hj
    by_cases c : j < 4 * pm P
    · rw [if_pos c, d1 j c]
      have := c1 (j / 4) (j % 4) (by omega) (by omega)
      rw [show 4 * (j / 4) + j % 4 = j by omega] at this
      exact this
    · rw [if_neg c]; exact d2 j (by omega) hj
  generalize hcN' : (fun j => if j < 4 * pm P then fK (j / 4) (pwa P (j / 4)) (j % 4) (dw P f s) else 0) = cN at *
  have hcN : ∀ j, j < 24 → τ3 721 j = nI (cN j) := fun j hj => by rw [← hcN']; exact hcN j hj
  have hts : tsum cN 24 = wsum (dw P f s) (pm P) := by
    have e : (24 : Nat) = 4 * pm P + (24 - 4 * pm P) := by omega
    rw [e, tsum_zero _ (fun j h1 h2 => by rw [← hcN']; dsimp only; rw [if_neg (by omega)])]
    refine tsum_comes (wa := pwa P) (m := pm P) (fun i hi => (p6 i hi).2.1) hdwz (fun i k hi hk => ?_) (pm P) (Nat.le_refl _)
    rw [← hcN']
    dsimp only
    rw [if_pos (by omega), show (4 * i + k) / 4 = i by omega, show (4 * i + k) % 4 = k by omega]
  have g3 : ∀ c, c ≠ 703 → c ≠ 714 → c ≠ 719 → c ≠ 720 → c ≠ 721 → τ3 c = σ c := fun c x1 x2 x3 x4 x5 => by rw [d3 c x5, c2 c x5, e1 c x3, b3 c x2 x3 x4, qac c x1]
  have g3k : ∀ x, x ≠ 45 → τ3 703 x = σ 703 x := fun x hx => by rw [d3 703 (by omega), c2 703 (by omega), e1 703 (by omega), b3 703 (by omega) (by omega) (by omega), qa x hx]
  have g345 : τ3 703 45 = 0 := by rw [d3 703 (by omega), c2 703 (by omega), e1 703 (by omega), b3 703 (by omega) (by omega) (by omega), qa45]
  have g714 : ∀ j, τ3 714 j = τ1 714 j := fun j => by rw [d3 714 (by omega), c2 714 (by omega), e1 714 (by omega)]
  have g719 : ∀ k, k < pn P → τ3 719 k = 0 := fun k hk => by rw [d3 719 (by omega), c2 719 (by omega), e1k k hk]; exact (b1 k hk).2.2.2.1
  have g720 : ∀ k, k < pn P → τ3 720 k = nI (dG P s k) := fun k hk => by rw [d3 720 (by omega), c2 720 (by omega), e1 720 (by omega), (b1 k hk).2.2.2.2, hG k hk]
  have hbu : sm 100000 (nI (wsum (dw P f s) (pm P))) := sm_of rfl (by have := wsum_le (wt := dw P f s) (i := pm P) (fun k => by have := hdw k; omega); omega) (by omega)
  refine r_asks (n := pn P) (g := dG P s) (to := pto P) (ru := s 6) (co := pco P) (left := s 2) (holds := s 0 3) (board := s 0 0) (day := s 0 1) (W := pW P) (cN := cN) (A := dA P f s) p1 ⟨by rw [g3k 24 (by omega)]; exact m1, by rw [g714, b2 54 (by omega), qac 714 (by omega)]; exact a2, by rw [g714, b2 56 (by omega), qac 714 (by omega)]; exact a4, by rw [g3k 41 (by omega)]; exact m3, fun k hk => ⟨by rw [g3 717 (by omega) (by omega) (by omega) (by omega) (by omega)]; exact (m6 k hk).2.2.2.1, by rw [g3 716 (by omega) (by omega) (by omega) (by omega) (by omega)]; exact (m6 k hk).2.2.2.2, by rw [g714, (b1 k hk).1, hG k hk], by rw [g3 708 (by omega) (by omega) (by omega) (by omega) (by omega)]; exact (m6 k hk).2.1, by rw [g714, b2 (6 + k) (by omega), qac 714 (by omega)]; exact (a1 k hk).2.1⟩, hcN⟩ (fun k hk => (r3 k hk).imp id (fun h => ⟨h.1, by omega⟩)) (fun k hk => by rw [hts]; rfl) ?_ (fun τ4 f1 f2 f3 f4 f5 => ?_)
  · intro k hk hto hru hr5 τ t1 t2
    have hlt : ix (s 6 k) < rc := by
      rcases r3 k hk with h | h
      · exact absurd (hru.symm.trans h) (n_ne1 (by omega))
      · exact h.2
    rw [hts] at t2 ⊢
    have hLO : LO τ := fun j hj => by rw [t2 j hj]; exact ltr_lo s1 s2 hbu (hdG k) (p5 k (by omega)).2.2 (s4 k (by omega))
    have hW := hR (ix (s 6 k)) hlt τ (fun k _ => by rw [t1, g3 705 (by omega) (by omega) (by omega) (by omega) (by omega)]) hLO
    rw [← hru] at hW
    rw [g3 706 (by omega) (by omega) (by omega) (by omega) (by omega)]
    exact ok_mono hW (fun τ' h => ⟨h.1.trans (r2 _ _ _ t2), h.2⟩)
  simp only [h292]
  rw [f4 24 (by omega), g3k 24 (by omega), m1, ck_t ((n_in (by omega)).mpr (by omega)), f4 44 (by omega), g3k 44 (by omega), ok_lt, n_ix (by omega)]
  generalize hτ5 : zst τ4 718 (pn P) (σ 703 44) = τ5
  have e5 : ∀ c, c ≠ 718 → τ5 c = τ4 c := fun c hc => by rw [← hτ5, zst_n hc]
  have e5k : ∀ k, k < pn P → τ5 718 k = dA P f s k := fun k hk => by rw [← hτ5, zst_k (by omega)]; exact (f1 k hk).1
  have e5n : τ5 718 (pn P) = σ 703 44 := by rw [← hτ5, zst_v]
  have h703 : ∀ x, (x < 5 ∨ x = 6 ∨ x = 7 ∨ x = 15 ∨ x = 16 ∨ 17 < x ∧ x ≠ 45) → τ5 703 x = σ 703 x := fun x hx => by rw [e5 703 (by omega), f4 x (by omega), g3k x (by omega)]
  have h45 : τ5 703 45 = 0 := by rw [e5 703 (by omega), f4 45 (by omega)]; exact g345
  have h5c : ∀ c, c ≠ 703 → c ≠ 707 → c ≠ 714 → c ≠ 718 → c ≠ 719 → c ≠ 720 → c ≠ 721 → τ5 c = σ c := fun c x1 x2 x3 x4 x5 x6 x7 => by rw [e5 c x4, f5 c x1 x2 x3 x4, g3 c x1 x3 x5 x6 x7]
  have h714 : ∀ j, (j < 18 ∨ 18 + pn P ≤ j) → τ5 714 j = τ1 714 j := fun j hj => by rw [e5 714 (by omega), f2 j hj, g714 j]
  have hgn : pN P = pn P + 1 → σ 703 43 = nI (dG P s (pn P)) := by
    intro hN
    rcases hSt with h | h
    · omega
    · rw [h.2.1, (s3 (pn P) (by omega)).1]
      unfold dG brt
      rw [if_pos (by omega), h.2.2.2, Nat.zero_min]; rfl
  have hK : SRk (pn P) (pN P) (s 0 3) (dG P s) (dA P f s) τ5 := by
    refine ⟨p1, hNn, by rw [h703 24 (by omega)]; exact m1, by rw [h703 41 (by omega)]; exact m3, fun k hk => ?_, hh, hdG, fun hN => ⟨by
      rw [h703 43 (by omega)]
      rcases hSt with h | h
      · exact h.2
      · omega, h45⟩, fun hN => by rw [h703 43 (by omega)]; exact hgn hN⟩
    by_cases c : k < pn P
    · exact e5k k c
    · have hkn : k = pn P := by omega
      subst hkn
      rw [e5n]
      rcases hSt with h | h
      · omega
      · rw [h.2.2.1]
        unfold dA asV
        rw [if_neg (p8 _ (Nat.le_refl _) hk)]
  have hSR : SR (pn P) (pN P) (dG P s) (dA P f s) (dGa P s) τ5 τ5 (fun _ => 0) (s 0 2) (fun i => (σ 723 i - s 8 i) + s 8 i) (fun i => σ 724 i) (fun j => τ5 714 (30 + j)) := by
    refine ⟨fun k hk => ⟨?_, ?_, ?_, ?_⟩, ?_, fun _ => h45, fun i hi => ⟨?_, ?_⟩, fun _ _ => rfl, fun _ => Nat.zero_le _, fun _ _ => rfl, fun _ _ => rfl, fun _ => rfl, fun _ _ _ _ _ _ => rfl⟩
    · rw [h714 k (by omega), (b1 k hk).1, hG k hk]; rfl
    · rw [h714 (12 + k) (by omega), (b1 k hk).2.1, qac 714 (by omega), (a1 k hk).2.2.1, n_0]; unfold dGa; grind
    · rw [h714 (24 + k) (by omega), (b1 k hk).2.2.1]; rfl
    · rw [e5 719 (by omega), f5 719 (by omega) (by omega) (by omega) (by omega), g719 k hk, n_0]; grind
    · rw [h714 55 (by omega), b2 55 (by omega), qac 714 (by omega)]; exact a3
    · rw [h5c 723 (by omega) (by omega) (by omega) (by omega) (by omega) (by omega) (by omega)]; grind
    · rw [h5c 724 (by omega) (by omega) (by omega) (by omega) (by omega) (by omega) (by omega)]
  have h721 : ∀ i k, i < pm P → k < 4 → τ5 721 (4 * i + k) = nI (fK i (pwa P i) k (dw P f s)) := fun i k hi hk => by
    rw [e5 721 (by omega), f5 721 (by omega) (by omega) (by omega) (by omega), hcN _ (by omega), ← hcN']
    dsimp only
    rw [if_pos (by omega), show (4 * i + k) / 4 = i by omega, show (4 * i + k) % 4 = k by omega]
  rw [ok_bd]
  refine ok_mono (r_serveAll (m := pm P) (wo := pwo P) (b0 := fun i => σ 723 i - s 8 i) (gm0 := fun i => σ 724 i) (w := pw P) (wa := pwa P) (X0 := (fun _ => 0, s 0 2, dw P f s, s 8)) hK p2 (by rw [h703 25 (by omega)]; exact m2) (fun i hi => ⟨by rw [h5c 709 (by omega) (by omega) (by omega) (by omega) (by omega) (by omega) (by omega)]; exact (m7 i hi).1, (p6 i hi).2.2.2⟩) (fun k => by have := hdw k; dsimp only; omega) (fun i hi => (p6 i hi).2.1) hdwz h721 (fun k hk => (p6 k hk).2.2.1) w1 w2 hSR) (fun τ6 h6 => ?_)
  obtain ⟨gm, ww, hX, hX1, hX2, hX3⟩ := h6
  have hX : SR (pn P) (pN P) (dG P s) (dA P f s) (dGa P s) τ5 τ6 (dX P f s).1 (dX P f s).2.1 (fun i => (σ 723 i - s 8 i) + (dX P f s).2.2.2 i) gm ww := hX
  have hX1 : ∀ i, i < pm P → gm i = σ 724 i + nI ((dX P f s).2.2.1 (4 * i + pwa P i)) ∧ ∀ x, x < 3 → ww (4 * i + x) = nI (fK i (pwa P i) (x + 1) (dX P f s).2.2.1) := hX1
  obtain ⟨x1, x2, x3, x4, x5, x6, x7, x8, x9, x10⟩ := id hX
  have t718 : τ6 718 = τ5 718 := x10 718 (by omega) (by omega) (by omega) (by omega) (by omega)
  rw [ok_bd]
  refine ok_mono (r_board (n := pn P) (N := pN P) (gl := dgl P f s) (g0 := dG P s) (ask := dA P f s) (lead := pld P) (free := pfr P) p1 hNn (by rw [x8 24 (by omega), h703 24 (by omega)]; exact m1) (by rw [x8 42 (by omega), h703 42 (by omega)]; exact m4) (by rw [x10 710 (by omega) (by omega) (by omega) (by omega) (by omega), h5c 710 (by omega) (by omega) (by omega) (by omega) (by omega) (by omega) (by omega)]; exact m5) (fun k hk => ⟨(x1 k hk).1, by rw [x10 720 (by omega) (by omega) (by omega) (by omega) (by omega), e5 720 (by omega), f5 720 (by omega) (by omega) (by omega) (by omega)]; exact g720 k hk⟩) (fun k hk => ⟨by unfold dgl; omega, hdG k⟩) (fun k hk => by rw [t718]; exact hK.2.2.2.2.1 k hk) (fun hN => ⟨(dX P f s).1 (pn P), by rw [x8 43 (by omega), h703 43 (by omega)]; exact hgn hN, x3 (by omega), x6 _, rfl⟩) (fun hN => ⟨by rw [x8 43 (by omega)]; exact (hK.2.2.2.2.2.2.2.1 hN).1, by rw [x9 hN]; exact h45⟩)) (fun τ7 h7 => ?_)
  obtain ⟨y1, y2, y3, y4, y5⟩ := h7
  have y1 : τ7 714 54 = boV (pld P) (pfr P) (dU P f s) := y1
  have y3 : τ7 703 46 = (if (dU P f s).1 = 0 then 1 else 0) := y3
  refine ok_lg (fun k372 h372 => ?_)
  refine r_close (n := pn P) (gl := dgl P f s) (ro := pro P) p1 (by rw [y4 24 (by omega), x8 24 (by omega), h703 24 (by omega)]; exact m1) (fun k hk => ⟨by rw [y2 k (by omega)]; exact (x1 k hk).1, by have := hdG k; unfold dgl; omega, by rw [y5 708 (by omega) (by omega) (by omega), x10 708 (by omega) (by omega) (by omega) (by omega) (by omega), h5c 708 (by omega) (by omega) (by omega) (by omega) (by omega) (by omega) (by omega)]; exact (m6 k hk).2.2.1, by have := (p5 k (by omega)).2.1; omega⟩) (fun τ8 z1 z2 z3 => ?_)
  rw [h372, ok_lt, ok_s, show ix 56 = 56 by decide]
  have u8 : ∀ j, j ≠ 56 → zst τ8 714 56 (τ8 714 56 + 1) 714 j = τ8 714 j := fun j hj => zst_k hj
  have uc : ∀ c, c ≠ 714 → zst τ8 714 56 (τ8 714 56 + 1) c = τ7 c := fun c hc => by rw [zst_n hc, z3 c hc]
  have t56 : τ8 714 56 = s 0 1 := by rw [z2 56 (by omega), y2 56 (by omega), x7 56 (by omega), h714 56 (by omega), b2 56 (by omega), qac 714 (by omega)]; exact a4
  refine ⟨⟨⟨fun k hk => ⟨?_, ?_, ?_, ?_, ?_⟩, ?_, ?_, ?_, fun i k hi hk => ?_, fun j h1 h2 => ?_⟩, ?_, fun k hk => ⟨?_, ?_, ?_⟩, fun hN => ?_, fun i hi => ⟨?_, ?_⟩, fun x hx => ?_, fun c v1 v2 v3 v4 v5 v6 v7 v8 v9 v10 => ?_⟩, fun k e1 e2 => ⟨?_, ?_⟩⟩
  · rw [u8 _ (by omega), (z1 k hk).1]
    show _ = (if k < pN P then _ else _)
    rw [if_pos (by omega)]
  · rw [u8 _ (by omega), (z1 k hk).2]
    show _ = (if k < pN P then _ else _)
    rw [if_pos (by omega)]
  · rw [u8 _ (by omega), z2 _ (by omega), y2 _ (by omega), (x1 k hk).2.1]
    show _ = (if k < pN P then _ else _)
    rw [if_pos (by omega)]
  · rw [u8 _ (by omega), z2 _ (by omega), y2 _ (by omega), x7 _ (by omega), e5 714 (by omega), (f1 k hk).2]
    show _ = (if k < pN P then _ else _)
    rw [if_pos (by omega)]
  · rw [u8 _ (by omega), z2 _ (by omega), y2 _ (by omega), (x1 k hk).2.2.1]
    show _ = (if k < pN P then _ else _)
    rw [if_pos (by omega)]
  · rw [u8 _ (by omega), z2 _ (by omega), y1]; rfl
  · rw [u8 _ (by omega), z2 _ (by omega), y2 _ (by omega), x2]; rfl
  · rw [zst_v, t56]; rfl
  · have hwa := (p6 i hi).2.1
    rw [u8 _ (by omega), z2 _ (by omega), y2 _ (by omega), x5 _ (by omega)]
    by_cases c3 : k < 3
    · rw [(hX1 i hi).2 k c3]
      unfold fK
      by_cases c : k < pwa P i
      · rw [if_pos c, if_pos (by omega)]
        show _ = nI (cwt (pm P) (pwa P) (dX P f s).2.2.1 (4 * i + (pwa P i - k)))
        unfold cwt
        rw [if_pos (by omega), show (4 * i + (pwa P i - k)) % 4 = pwa P i - k by omega, show (4 * i + (pwa P i - k)) / 4 = i by omega, if_neg (by omega), if_pos (by omega), show 4 * i + (pwa P i - k) - 1 = 4 * i + (pwa P i - (k + 1)) by omega]
      · rw [if_neg c, if_neg (by omega)]; rfl
    · have : k = 3 := by omega
      subst this
      rw [if_neg (by omega)]; exact hX3 i (by omega)
  · have hj := hX2 (j / 4) (by omega) (by omega)
    rw [u8 _ (by omega), z2 _ (by omega), y2 _ (by omega), x5 _ (by omega)]
    by_cases c3 : j % 4 < 3
    · have := hj.2 (j % 4) c3
      rw [show 4 * (j / 4) + j % 4 = j by omega] at this
      exact this
    · have := hX3 (j / 4) (by omega)
      rw [show 4 * (j / 4) + 3 = j by omega] at this
      exact this
  · rw [uc 703 (by omega)]; exact y3
  · rw [uc 718 (by omega), y5 718 (by omega) (by omega) (by omega), t718]; exact e5k k hk
  · rw [uc 719 (by omega), y5 719 (by omega) (by omega) (by omega)]; exact (x1 k hk).2.2.2
  · rw [uc 720 (by omega), y5 720 (by omega) (by omega) (by omega), x10 720 (by omega) (by omega) (by omega) (by omega) (by omega), e5 720 (by omega), f5 720 (by omega) (by omega) (by omega) (by omega)]; exact g720 k hk
  · rw [uc 703 (by omega), y4 45 (by omega)]; exact x3 hN
  · rw [uc 723 (by omega), y5 723 (by omega) (by omega) (by omega), (x4 i (by omega)).1]; rfl
  · rw [uc 724 (by omega), y5 724 (by omega) (by omega) (by omega), (x4 i (by omega)).2, (hX1 i hi).1]
    show _ = _ + (if i < pm P then _ else _)
    rw [if_pos hi]; grind
  · rw [uc 703 (by omega), y4 x (by omega), x8 x (by omega), h703 x (by omega)]
  · rw [uc c v3, y5 c v1 v3 v8, x10 c v1 v3 v5 v9 v10, h5c c v1 v2 v3 v4 v5 v6 v7]
  · rw [u8 _ (by omega), z2 _ (by omega), y2 _ (by omega), x7 _ (by omega), h714 _ (by omega), b2 _ (by omega), qac 714 (by omega)]
  · rw [u8 _ (by omega), z2 _ (by omega), y2 _ (by omega), x7 _ (by omega), h714 _ (by omega), b2 _ (by omega), qac 714 (by omega)]
theorem r_day {P : Pm} {f : Int32} {s σ : Mm} {rc : Nat} (hP : WFp P) (hPw : WFw P) (hs : WFs P s) (hRs : RuS P rc s) (hh : ∀ k, pn P ≤ k → k < 6 → ¬ hob (s 0 3) k) (hA : RRs P σ s) (hC : PmR P s σ) (hSt : StP P s σ) (hR : RuR P rc σ) :
    Ok (zfX12_goes f σ) (fun τ => RRs P τ (dayS P f s) ∧ τ 703 46 = (if (dU P f s).1 = 0 then 1 else 0) ∧ (∀ k, k < pn P → τ 718 k = dA P f s k ∧ τ 719 k = nI ((dX P f s).1 k) * dA P f s k ∧ τ 720 k = nI (dG P s k)) ∧ (pn P < pN P → τ 703 45 = nI ((dX P f s).1 (pn P))) ∧
      (∀ i, i < pm P → τ 723 i = σ 723 i - s 8 i + dayS P f s 8 i ∧ τ 724 i = σ 724 i - s 9 i + dayS P f s 9 i) ∧
      (∀ x, (x < 5 ∨ x = 6 ∨ x = 7 ∨ x = 15 ∨ x = 16 ∨ 17 < x ∧ x ≠ 45 ∧ x ≠ 46) → τ 703 x = σ 703 x) ∧
      ∀ c, c ≠ 703 → c ≠ 707 → c ≠ 714 → c ≠ 718 → c ≠ 719 → c ≠ 720 → c ≠ 721 → c ≠ 722 → c ≠ 723 → c ≠ 724 → τ c = σ c) := ok_mono (r_day0 hP hPw hs hRs hh hA hC hSt hR) (fun _ h => h.1)
