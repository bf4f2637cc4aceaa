/-! ===== what is noted ===== -/
theorem Ivx.chgN {B : Nat} {P : Pm} {rc : Nat} {s σ τ : Mm} (h : Ivx B P rc s σ)
    (fc : ∀ c, (c ≤ 10 ∨ 12 ≤ c ∧ c < 37 ∧ ¬ stk c ∨ 58 ≤ c ∧ c ≤ 67 ∨ 704 ≤ c ∧ c ≤ 706 ∨ 708 ≤ c ∧ c ≤ 710 ∨ c = 714 ∨ c = 716 ∨ 737 ≤ c ∧ c ≤ 738) → τ c = σ c)
    (f7 : ∀ k, (k = 6 ∨ k = 7 ∨ k = 24 ∨ k = 25 ∨ 32 ≤ k ∧ k ≤ 34 ∨ k = 234 ∨ 71 ≤ k ∧ k ≤ 73 ∨ k = 272) → τ 703 k = σ 703 k) (hN : IvN P τ) : Ivx B P rc s τ := by
  obtain ⟨h1, h2, ⟨m1, m2, m3, m4, m5, m6, m7, m8⟩, ⟨r1, r2, r3, r4, r5⟩, hW, ⟨k1, k2⟩, ⟨i1, i2⟩, _⟩ := h
  have hn := h2.1.1
  have hm := h2.1.2.1
  refine ⟨h1.of (by rw [fc 1 (by omega)]) (fc 2 (by omega)) (f7 6 (by omega)) (fc 704 (by omega)), h2, ⟨by rw [fc 3 (by omega)]; exact m1, by rw [fc 3 (by omega)]; exact m2, by rw [f7 24 (by omega)]; exact m3, by rw [f7 25 (by omega)]; exact m4, by rw [fc 3 (by omega), fc 710 (by omega)]; exact m5, fun k hk => ?_, fun i hi => ?_, fun k a b => by rw [fc 4 (by omega), fc 5 (by omega), fc 6 (by omega)]; exact m8 k a b⟩,
    ⟨by rw [fc 0 (by omega)]; exact r1, by rw [f7 7 (by omega)]; exact r2, r3, r4.of (fun r hr => ⟨fc _ (Or.inr (Or.inl ⟨by omega, by omega, stk_n (by omega)⟩)), fc _ (Or.inr (Or.inl ⟨by omega, by omega, stk_n (by omega)⟩))⟩), r5.of (fc 705 (by omega)) (fun r hr => by rw [fc 706 (by omega)])⟩,
    IvW.of hW (fun c hc => by
      by_cases e : c ≤ 36
      · exact fc c (Or.inr (Or.inl ⟨by omega, by omega, stk_n (by omega)⟩))
      · exact fc c (by omega)) (fun k hk => f7 k (by omega)), ⟨by rw [fc 0 (by omega), f7 33 (by omega)]; exact k1, by rw [fc 0 (by omega)]; exact k2⟩, ⟨by rw [fc 0 (by omega), f7 73 (by omega)]; exact i1, ?_⟩, hN⟩
  · rw [fc 4 (by omega), fc 5 (by omega), fc 6 (by omega), fc 708 (by omega)]; exact m6 k hk
  · rw [fc 7 (by omega), fc 8 (by omega), fc 9 (by omega), fc 10 (by omega), fc 709 (by omega)]; exact m7 i hi
  · rw [fc 0 (by omega)]
    refine i2.imp id (fun h => ⟨h.1, h.2.1, ?_⟩)
    obtain ⟨s, ⟨s1, s2, s3⟩, s4, s5, s6, s7⟩ := h.2.2
    refine ⟨s, ⟨s1.fr (fun c a b => fc c (by omega)), s2.row hn hm (fun k hk => ?_), s3⟩, by rw [f7 71 (by omega)]; exact s4, fun k hk => by rw [fc 738 (by omega)]; exact s5 k hk, by rw [f7 72 (by omega)]; exact s6, by rw [f7 272 (by omega)]; exact s7⟩
    rw [wr_s, wr_s, fc 737 (by omega)]
