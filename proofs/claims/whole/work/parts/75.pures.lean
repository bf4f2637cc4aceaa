/-! ===== what both refuse ===== -/
theorem q_days {σ τ : Mm} {n : Nat} (x : Int32) (hn : n ≤ 5) (h1 : σ 3 0 = nI n) (h2 : τ 703 24 = nI n) :
    (zfX11_noDays x σ = 0 ∧ ¬ zfX12_isReady x τ = 0 ∧ 0 < n ∧ ∃ d, 1 ≤ d ∧ d ≤ 30 ∧ x = nI d) ∨ (¬ zfX11_noDays x σ = 0 ∧ zfX12_isReady x τ = 0) := by
  unfold zfX11_noDays zfX12_isReady zfX12_areDays zfX11_noMarket
  simp only [lt_p]
  rw [h1, h2, show (1 : Int64) = Int32.toInt64 1 from rfl, show (30 : Int64) = Int32.toInt64 30 from rfl, r_isIn]
  by_cases c0 : n = 0
  · right
    subst c0
    exact ⟨by rw [if_pos (show nI 0 = 0 from rfl), if_neg (show ¬ (1 : Int32) = 0 by decide)]; decide, by rw [if_pos (show nI 0 ≤ 0 by decide)]⟩
  · rw [if_neg (show ¬ nI n = 0 by rw [show (0 : Int32) = nI 0 from rfl, n_eq (by omega) (by omega)]; exact c0), if_pos rfl, if_neg (show ¬ nI n ≤ 0 by rw [show (0 : Int32) = nI 0 from rfl, n_le (by omega) (by omega)]; omega)]
    have hlt : ∀ a : Nat, a < 100 → ((x < nI a ↔ x.toInt < a) ∧ (x ≤ nI a ↔ x.toInt ≤ a) ∧ (nI a < x ↔ (a : Int) < x.toInt)) := fun a ha => by
      rw [Int32.lt_iff_toInt_lt, Int32.le_iff_toInt_le, Int32.lt_iff_toInt_lt, n_ti (by omega)]; exact ⟨Iff.rfl, Iff.rfl, Iff.rfl⟩
    have e1 := hlt 1 (by omega)
    have e30 := hlt 30 (by omega)
    rw [show (1 : Int32) = nI 1 from rfl, show (30 : Int32) = nI 30 from rfl]
    by_cases c1 : x < nI 1
    · rw [if_pos c1, if_pos (Or.inl c1)]
      exact Or.inr ⟨by decide, by rw [if_pos rfl]⟩
    · rw [if_neg c1]
      by_cases c2 : x ≤ nI 30
      · have hx1 : ¬ x.toInt < 1 := fun h => c1 (e1.1.mpr h)
        have hx2 := e30.2.1.mp c2
        have hno : ¬ (x < nI 1 ∨ nI 30 < x) := by
          rintro (h | h)
          · exact c1 h
          · have := e30.2.2.mp h; omega
        rw [if_pos c2, if_neg hno]
        refine Or.inl ⟨rfl, by decide, by omega, ix x, ?_, ?_, n_of (by omega)⟩
        · unfold ix Int32.toNatClampNeg; omega
        · unfold ix Int32.toNatClampNeg; omega
      · rw [if_neg c2]
        have h30 : nI 30 < x := by
          refine e30.2.2.mpr ?_
          have : ¬ x.toInt ≤ (30 : Nat) := fun h => c2 (e30.2.1.mpr h)
          omega
        rw [if_pos (Or.inr h30)]
        exact Or.inr ⟨by decide, by rw [if_pos rfl]⟩
theorem q_what (x : Int32) (m : Nat) (hm : m < 100) : (zfX11_noWhat x (nI m) = 0 ∧ ¬ zfX12_isIn x.toInt64 (Int32.toInt64 0) (Int32.toInt64 (nI m)) = 0 ∧ ∃ d, d ≤ m ∧ x = nI d) ∨ (¬ zfX11_noWhat x (nI m) = 0 ∧ zfX12_isIn x.toInt64 (Int32.toInt64 0) (Int32.toInt64 (nI m)) = 0) := by
  unfold zfX11_noWhat
  simp only [lt_p]
  rw [r_isIn]
  have e0 : x < 0 ↔ x.toInt < 0 := by rw [Int32.lt_iff_toInt_lt]; exact Iff.rfl
  have em : x ≤ nI m ↔ x.toInt ≤ m := by rw [Int32.le_iff_toInt_le, n_ti (by omega)]
  have em2 : nI m < x ↔ (m : Int) < x.toInt := by rw [Int32.lt_iff_toInt_lt, n_ti (by omega)]
  by_cases c1 : x < 0
  · rw [if_pos c1, if_pos (Or.inl c1)]
    exact Or.inr ⟨by decide, rfl⟩
  · rw [if_neg c1]
    have h0 : ¬ x.toInt < 0 := fun h => c1 (e0.mpr h)
    by_cases c2 : x ≤ nI m
    · have h2 := em.mp c2
      rw [if_pos c2, if_neg (by rintro (h | h); exact c1 h; have := em2.mp h; omega)]
      refine Or.inl ⟨rfl, by decide, ix x, ?_, n_of (by omega)⟩
      unfold ix Int32.toNatClampNeg; omega
    · have h3 : ¬ x.toInt ≤ m := fun h => c2 (em.mpr h)
      have h4 : nI m < x := em2.mpr (by omega)
      rw [if_neg c2, if_pos (Or.inr h4)]
      exact Or.inr ⟨by decide, rfl⟩
/-! ===== a question is begun ===== -/
theorem cq_begin {P : Pm} {rc B : Nat} {σ s : Mm} (hP : IvP P) (hM : IvM P σ) (hR : RuC P rc σ) (hS : IvS P rc B 27 714 σ s) (h0 : 0 < pn P) :
    Ok (zfX10_begin σ) (fun τ => AgS 69 τ s ∧ τ 68 = n0 (s 0 0) (σ 68) ∧ PmC P τ ∧ RuC P rc τ ∧ FrS σ τ) := by
  obtain ⟨m1, m2, m3, m4, m5, m6, m7, m8⟩ := hM
  obtain ⟨n1, n2, n3, n4⟩ := m5
  refine ok_mono (c_begin hS.1) (fun τ h => ?_)
  obtain ⟨b1, b2, b3, b4, b5, b6, b7⟩ := h
  have hp := hP.1
  have q : ∀ c, (c < 37 ∨ 38 < c ∧ c < 68 ∨ 78 < c) → τ c = σ c := fun c hc => b7 c (by omega) (by omega) (by omega)
  refine ⟨b1, b2, ⟨by rw [q 3 (by omega)]; exact m1, by rw [q 3 (by omega)]; exact m2, by rw [q 3 (by omega)]; exact n2, by rw [b4]; exact n1, by rw [b3, m1, hP.2.2.1], fun k hk => ?_, fun i hi => ?_⟩, hR.of (fun r hr => ⟨?_, ?_⟩), ⟨fun c hc => q c (by omega), fun k _ => by rw [q 714 (by omega)], fun k _ => by rw [q 703 (by omega)]⟩⟩
  · rw [q 4 (by omega), q 5 (by omega), q 6 (by omega), b6 k (by have := hp.2.2.2.1; omega), hP.2.2.2 k]
    have := m6 k (by have := hP.2.2.1; omega)
    exact ⟨this.1, this.2.1, this.2.2.1, rfl⟩
  · rw [q 7 (by omega), q 8 (by omega), q 9 (by omega), q 10 (by omega)]
    have := m7 i hi
    exact ⟨this.1, this.2.1, this.2.2.1, this.2.2.2.1⟩
  · have := hS.2.2.2.1.1
    exact q _ (by omega)
  · have := hS.2.2.2.1.1
    exact q _ (by omega)
theorem FrC.s {σ τ : Mm} (h : FrC σ τ) : FrS σ τ := by
  refine ⟨fun c hc => ?_, fun k _ => by rw [h.2 714 (by omega) (by omega) (stk_n (by omega))], fun k _ => by rw [h.2 703 (by omega) (by omega) (stk_n (by omega))]⟩
  by_cases e : 12 ≤ c ∧ c < 27
  · exact h.2 c (by omega) (by omega) (by rcases hc with h | h | h | h | h | h | h | h | h <;> first | exact h.2.2 | omega)
  · exact h.2 c (by omega) (by omega) (stk_n (by omega))
/-- the reference's question is begun: kept, and none has told -/
theorem rq_keep {P : Pm} {rc B : Nat} {σ s : Mm} (hP : IvP P) (hM : IvM P σ) (hR : RuR P rc σ) (hS : IvS P rc B 27 714 σ s) (hh : s 0 3 = σ 703 32) (hr : ∀ k, k < pn P → σ 716 k = s 6 k) (h0 : 0 < pn P) :
    Ok (zfX12_keep σ) (fun τ => RRs P τ s ∧ (∀ j, j < 57 → τ 715 j = σ 714 j) ∧ PmR P s τ ∧ τ 703 43 = 0 ∧ RuR P rc τ ∧ FrS σ τ ∧ (∀ k, k < 41 → τ 703 k = σ 703 k) ∧ ∀ c, c ≠ 703 → c ≠ 715 → c ≠ 717 → τ c = σ c) := by
  obtain ⟨m1, m2, m3, m4, m5, m6, m7, m8⟩ := hM
  obtain ⟨n1, n2, n3, n4⟩ := m5
  have hp := hP.1
  have hRR : RRs P σ s := by have := hS.2.1; rw [wr_self] at this; exact this
  refine ok_mono r_keep (fun τ h => ?_)
  obtain ⟨b1, b2, b3, b4, b5, b6, b7⟩ := h
  have q : ∀ c, c ≠ 703 → c ≠ 715 → c ≠ 717 → τ c = σ c := b7
  refine ⟨hRR.row hp.1 hp.2.1 (fun k _ => by rw [q 714 (by omega) (by omega) (by omega)]), b1, ⟨by rw [b5 24 (by omega) (by omega) (by omega)]; exact m3, by rw [b5 25 (by omega) (by omega) (by omega)]; exact m4, by rw [b2]; exact hh.symm, by rw [b3]; exact n3, by rw [q 710 (by omega) (by omega) (by omega)]; exact n4, fun k hk => ?_, fun i hi => ?_⟩, b4, hR.of (q 705 (by omega) (by omega) (by omega)) (fun r _ => by rw [q 706 (by omega) (by omega) (by omega)]), ⟨fun c hc => q c (by omega) (by omega) (by omega), fun k _ => by rw [q 714 (by omega) (by omega) (by omega)], fun k hk => b5 k (by omega) (by omega) (by omega)⟩, fun k hk => b5 k (by omega) (by omega) (by omega), q⟩
  · rw [q 708 (by omega) (by omega) (by omega), q 716 (by omega) (by omega) (by omega), b6 k (by have := hp.1; omega), hP.2.2.2 k]
    have := m6 k hk
    exact ⟨this.2.2.2.1, this.2.2.2.2.1, this.2.2.2.2.2, rfl, hr k hk⟩
  · rw [q 709 (by omega) (by omega) (by omega)]
    exact (m7 i hi).2.2.2.2
/-- put back after tries: all stands as it stood -/
theorem rq_back {σ τ υ : Mm} (h1 : FrS σ τ) (h2 : ∀ j, j < 57 → τ 715 j = σ 714 j) (h3 : FrT τ υ) : Ok (zfX12_putBack υ) (fun φ => FrS σ φ ∧ ∀ c, c ≠ 714 → φ c = υ c) := by
  refine ok_mono r_putBack (fun φ h => ?_)
  obtain ⟨b1, b2⟩ := h
  refine ⟨⟨fun c hc => ?_, fun k hk => ?_, fun k hk => ?_⟩, b2⟩
  · rw [b2 c (by omega), h3.c (by omega)]; exact h1.1 c hc
  · rw [b1 k hk, h3.c (by omega)]; exact h2 k hk
  · rw [b2 703 (by omega), h3.1 k (by omega)]; exact h1.2.2 k hk
