/-! ===== what is set ===== -/
/-- the state of now, on both sides -/
def IvW (P : Pm) (rc B : Nat) (s σ : Mm) : Prop := IvS P rc B 27 714 σ s ∧ s 0 3 = σ 703 32 ∧ (∀ k, k < pn P → σ 716 k = s 6 k) ∧ σ 703 34 = s 0 4 ∧ σ 703 234 = s 0 204
theorem Ivx.chg {B : Nat} {P : Pm} {rc : Nat} {s s2 σ τ : Mm} (h : Ivx B P rc s σ)
    (fc : ∀ c, (3 ≤ c ∧ c ≤ 10 ∨ 12 ≤ c ∧ c < 27 ∧ ¬ stk c ∨ 58 ≤ c ∧ c ≤ 67 ∨ 695 ≤ c ∧ c ≤ 702 ∨ 705 ≤ c ∧ c ≤ 706 ∨ 708 ≤ c ∧ c ≤ 710 ∨ 731 ≤ c ∧ c ≤ 735 ∨ 737 ≤ c ∧ c ≤ 738) → τ c = σ c)
    (f0 : τ 0 14 = σ 0 14 ∧ τ 0 16 = σ 0 16) (f7 : ∀ k, (k = 7 ∨ k = 24 ∨ k = 25 ∨ k = 62 ∨ k = 66 ∨ 71 ≤ k ∧ k ≤ 73 ∨ k = 272) → τ 703 k = σ 703 k)
    (hT : IvT τ) (hW : IvW P rc B s2 τ) (hK : τ 0 15 = τ 703 33 ∧ sm 100 (τ 0 15)) : Ivx B P rc s2 τ := by
  obtain ⟨h1, h2, ⟨m1, m2, m3, m4, m5, m6, m7, m8⟩, ⟨r1, r2, r3, r4, r5⟩, _, _, ⟨i1, i2⟩, ⟨⟨n, n1, n2, n3, n4⟩, ⟨a, a1, a2, a3, a4⟩⟩⟩ := h
  have hn := h2.1.1
  have hm := h2.1.2.1
  refine ⟨hT, h2, ⟨by rw [fc 3 (by omega)]; exact m1, by rw [fc 3 (by omega)]; exact m2, by rw [f7 24 (by omega)]; exact m3, by rw [f7 25 (by omega)]; exact m4, by rw [fc 3 (by omega), fc 710 (by omega)]; exact m5, fun k hk => ?_, fun i hi => ?_, fun k a b => by rw [fc 4 (by omega), fc 5 (by omega), fc 6 (by omega)]; exact m8 k a b⟩,
    ⟨by rw [f0.1]; exact r1, by rw [f7 7 (by omega)]; exact r2, r3, r4.of (fun r hr => ⟨fc _ (Or.inr (Or.inl ⟨by omega, by omega, stk_n (by omega)⟩)), fc _ (Or.inr (Or.inl ⟨by omega, by omega, stk_n (by omega)⟩))⟩), r5.of (fc 705 (by omega)) (fun r hr => by rw [fc 706 (by omega)])⟩,
    hW, hK, ⟨by rw [f0.2, f7 73 (by omega)]; exact i1, ?_⟩, ⟨⟨n, n1, by rw [fc 695 (by omega)]; exact n2, by rw [f7 62 (by omega)]; exact n3, fun k hk => ?_⟩, ⟨a, a1, by rw [fc 699 (by omega)]; exact a2, by rw [f7 66 (by omega)]; exact a3, fun k hk => ?_⟩⟩⟩
  · rw [fc 4 (by omega), fc 5 (by omega), fc 6 (by omega), fc 708 (by omega)]; exact m6 k hk
  · rw [fc 7 (by omega), fc 8 (by omega), fc 9 (by omega), fc 10 (by omega), fc 709 (by omega)]; exact m7 i hi
  · rw [f0.2]
    refine i2.imp id (fun h => ⟨h.1, h.2.1, ?_⟩)
    obtain ⟨s, ⟨s1, s2, s3⟩, s4, s5, s6, s7⟩ := h.2.2
    refine ⟨s, ⟨s1.fr (fun c a b => fc c (by omega)), s2.row hn hm (fun k hk => ?_), s3⟩, by rw [f7 71 (by omega)]; exact s4, fun k hk => by rw [fc 738 (by omega)]; exact s5 k hk, by rw [f7 72 (by omega)]; exact s6, by rw [f7 272 (by omega)]; exact s7⟩
    rw [wr_s, wr_s, fc 737 (by omega)]
  · rw [fc 696 (by omega), fc 697 (by omega), fc 731 (by omega), fc 732 (by omega)]; exact n4 k hk
  · rw [fc 700 (by omega), fc 701 (by omega), fc 702 (by omega), fc 733 (by omega), fc 734 (by omega), fc 735 (by omega)]; exact a4 k hk
theorem IvW.of {P : Pm} {rc B : Nat} {s σ τ : Mm} (h : IvW P rc B s σ) (fc : ∀ c, (27 ≤ c ∧ c ≤ 36 ∨ c = 714 ∨ c = 716) → τ c = σ c) (f7 : ∀ k, (k = 32 ∨ k = 34 ∨ k = 234) → τ 703 k = σ 703 k) : IvW P rc B s τ := by
  obtain ⟨⟨s1, s2, s3⟩, s4, s5, s6, s7⟩ := h
  rw [wr_self] at s2
  refine ⟨⟨s1.fr (fun c a b => fc c (by omega)), ?_, s3⟩, by rw [f7 32 (by omega)]; exact s4, fun k hk => by rw [fc 716 (by omega)]; exact s5 k hk, by rw [f7 34 (by omega)]; exact s6, by rw [f7 234 (by omega)]; exact s7⟩
  rw [wr_self]
  exact s2.fr14 (fc 714 (by omega))
theorem IvT.of {σ τ : Mm} (h : IvT σ) (f1 : τ 1 1 = σ 1 1) (f2 : τ 2 = σ 2) (f3 : τ 703 6 = σ 703 6) (f4 : τ 704 = σ 704) : IvT τ := by
  obtain ⟨n, t, h1, h2, h3, h4, h5⟩ := h
  exact ⟨n, t, h1, by rw [f1]; exact h2, by rw [f3]; exact h3, fun k hk => by rw [f2]; exact h4 k hk, by rw [f4]; exact h5⟩
theorem Ivx.z0 {B : Nat} {P : Pm} {rc : Nat} {s σ : Mm} (h : Ivx B P rc s σ) : Ivx B P rc s (zst σ 703 0 0) :=
  h.fr ⟨fun c hc => zst_n (by omega), fun k _ => by rw [zst_n (by omega)], fun k hk => zst_k (by omega)⟩
theorem q_risk {B : Nat} (x : Int32) : Qy B (zfX11_risk x) (zfX12_risk x) := by
  rintro σ ⟨P, rc, s, hI⟩
  have e0 : x < 0 ↔ x.toInt < 0 := by rw [Int32.lt_iff_toInt_lt]; exact Iff.rfl
  have e1 : x ≤ 100 ↔ x.toInt ≤ 100 := by rw [Int32.le_iff_toInt_le]; exact Iff.rfl
  have e2 : (100 : Int32) < x ↔ 100 < x.toInt := by rw [Int32.lt_iff_toInt_lt]; exact Iff.rfl
  have hin : zfX12_isIn x.toInt64 0 100 = if x < 0 ∨ 100 < x then 0 else 1 := r_isIn (a := 0) (b := 100)
  have bad : (x < 0 ∨ 100 < x) → Ok (zfX12_risk x σ) (fun b => b.1 = 0 ∧ Iv (B + 31) b.2) := fun h => by
    unfold zfX12_risk
    refine ok_lg (fun υ e => ?_)
    rw [hin, if_pos h, if_pos rfl, ok_s]
    subst e
    exact ⟨rfl, Iv.up ⟨P, rc, s, hI.z0⟩ (by omega)⟩
  unfold zfX11_risk
  refine ok_lg (fun J hJ => ?_)
  by_cases c1 : x < 0
  · rw [if_pos c1]
    simp only [hJ]
    rw [ok_s]
    exact bad (Or.inl c1)
  · rw [if_neg c1]
    by_cases c2 : x ≤ 100
    case neg =>
      rw [if_neg c2]
      simp only [hJ]
      rw [ok_s]
      have h3 : ¬ x.toInt ≤ 100 := fun h => c2 (e1.mpr h)
      exact bad (Or.inr (e2.mpr (by omega)))
    case pos =>
      rw [if_pos c2]
      refine ok_lg (fun τ eτ => ?_)
      rw [ok_s]
      dsimp only
      unfold zfX12_risk
      refine ok_lg (fun υ e => ?_)
      have h0 : ¬ x.toInt < 0 := fun h => c1 (e0.mpr h)
      have h1 := e1.mp c2
      rw [hin, if_neg (show ¬ (x < 0 ∨ 100 < x) by rintro (h | h); exact c1 h; have := e2.mp h; omega), if_neg (by decide)]
      refine ok_lg (fun φ eφ => ?_)
      rw [ok_s]
      have hz := hI.z0
      have q : ∀ c, c ≠ 0 → c ≠ 703 → φ c = σ c := fun c a b => by rw [eφ, zst_n b, e, zst_n b, eτ, zst_n a]
      have q0 : ∀ k, k ≠ 15 → φ 0 k = σ 0 k := fun k hk => by rw [eφ, zst_n (by omega), e, zst_n (by omega), eτ, zst_k hk]
      have q7 : ∀ k, k ≠ 0 → k ≠ 33 → φ 703 k = σ 703 k := fun k a b => by rw [eφ, zst_k b, e, zst_k a, eτ, zst_n (by omega)]
      have v0 : φ 0 15 = x := by rw [eφ, zst_n (by omega), e, zst_n (by omega), eτ, zst_v]
      have v7 : φ 703 33 = x := by rw [eφ, zst_v]
      refine ⟨rfl, ?_⟩
      show Iv (B + 31) φ
      refine Iv.up ⟨P, rc, s, hI.chg (fun c hc => q c (by omega) (by omega)) ⟨q0 14 (by omega), q0 16 (by omega)⟩ (fun k hk => q7 k (by omega) (by omega)) (hI.1.of (by rw [q 1 (by omega) (by omega)]) (q 2 (by omega) (by omega)) (q7 6 (by omega) (by omega)) (q 704 (by omega) (by omega))) (IvW.of hI.2.2.2.2.1 (fun c hc => q c (by omega) (by omega)) (fun k hk => q7 k (by omega) (by omega))) ⟨by rw [v0, v7], ?_⟩⟩ (by omega)
      rw [v0]
      exact sm_int (by omega) (by omega) (by omega)
theorem q_seed {B : Nat} (x : Int64) : Qy B (zfX11_seed x) (zfX12_seed x) := by
  rintro σ ⟨P, rc, s, hI⟩
  unfold zfX11_seed zfX12_seed
  refine ok_lg (fun τ eτ => ?_)
  rw [ok_s]
  dsimp only
  refine ok_lg (fun υ e => ?_)
  refine ok_lg (fun φ eφ => ?_)
  rw [ok_s]
  unfold zstL at eτ eφ
  have q : ∀ c, c ≠ 27 → c ≠ 703 → φ c = σ c := fun c a b => by rw [eφ, zst_n b, zst_n b, e, zst_n b, eτ, zst_n a, zst_n a]
  have q2 : ∀ k, k ≠ 4 → k ≠ 204 → φ 27 k = σ 27 k := fun k a b => by rw [eφ, zst_n (by omega), zst_n (by omega), e, zst_n (by omega), eτ, zst_k (by omega), zst_k (by omega)]
  have q7 : ∀ k, k ≠ 0 → k ≠ 34 → k ≠ 234 → φ 703 k = σ 703 k := fun k a b c => by rw [eφ, zst_k (by omega), zst_k (by omega), e, zst_k a, eτ, zst_n (by omega), zst_n (by omega)]
  have v4 : φ 27 4 = zjh x := by rw [eφ, zst_n (by omega), zst_n (by omega), e, zst_n (by omega), eτ, zst_k (by omega), zst_v]
  have v204 : φ 27 204 = zjl x := by rw [eφ, zst_n (by omega), zst_n (by omega), e, zst_n (by omega), eτ, zst_v]
  have w4 : φ 703 34 = zjh x := by rw [eφ, zst_k (by omega), zst_v]
  have w204 : φ 703 234 = zjl x := by rw [eφ, zst_v]
  obtain ⟨⟨⟨a1, a2, a3, a4, a5⟩, s2, s3⟩, s4, s5, s6, s7⟩ := hI.2.2.2.2.1
  rw [wr_self] at s2
  refine ⟨rfl, ?_⟩
  show Iv (B + 31) φ
  refine Iv.up ⟨P, rc, zst (zst s 0 4 (zjh x)) 0 204 (zjl x), hI.chg (fun c hc => q c (by omega) (by omega)) ⟨by rw [q 0 (by omega) (by omega)], by rw [q 0 (by omega) (by omega)]⟩ (fun k hk => q7 k (by omega) (by omega) (by omega)) (hI.1.of (by rw [q 1 (by omega) (by omega)]) (q 2 (by omega) (by omega)) (q7 6 (by omega) (by omega) (by omega)) (q 704 (by omega) (by omega))) ?_ ⟨by rw [q 0 (by omega) (by omega), q7 33 (by omega) (by omega) (by omega)]; exact hI.2.2.2.2.2.1.1, by rw [q 0 (by omega) (by omega)]; exact hI.2.2.2.2.2.1.2⟩⟩ (by omega)
  have sk : ∀ i k, (i ≠ 0 ∨ k ≠ 4 ∧ k ≠ 204) → zst (zst s 0 4 (zjh x)) 0 204 (zjl x) i k = s i k := fun i k h => by
    by_cases c : i = 0
    · subst c
      rw [zst_k (by omega), zst_k (by omega)]
    · rw [zst_n c, zst_n c]
  have sr : ∀ i, i ≠ 0 → zst (zst s 0 4 (zjh x)) 0 204 (zjl x) i = s i := fun i h => by rw [zst_n h, zst_n h]
  refine ⟨⟨⟨fun k hk => ?_, ?_, ?_, fun i k hi hk => ?_, fun k hk => ?_⟩, ?_, ?_, ?_, ?_, ?_⟩, ?_, fun k hk => ?_, ?_, ?_⟩
  · rw [q2 k (by omega) (by omega), sk 0 k (by omega)]; exact a1 k hk
  · rw [v4, zst_k (by omega), zst_v]
  · rw [v204, zst_v]
  · rw [q _ (by omega) (by omega), sr i (by omega)]; exact a4 i k hi hk
  · rw [q _ (by omega) (by omega), sr 7 (by omega)]; exact a5 k hk
  · rw [wr_self]
    obtain ⟨b1, b2, b3, b4, b5, b6⟩ := s2
    refine ⟨fun k hk => ?_, ?_, ?_, ?_, fun i k hi hk => ?_, fun j h1 h2 => ?_⟩
    · rw [q 714 (by omega) (by omega), sr 1 (by omega), sr 2 (by omega), sr 3 (by omega), sr 4 (by omega), sr 5 (by omega)]; exact b1 k hk
    · rw [q 714 (by omega) (by omega), sk 0 0 (by omega)]; exact b2
    · rw [q 714 (by omega) (by omega), sk 0 2 (by omega)]; exact b3
    · rw [q 714 (by omega) (by omega), sk 0 1 (by omega)]; exact b4
    · rw [q 714 (by omega) (by omega), sr 7 (by omega)]; exact b5 i k hi hk
    · rw [q 714 (by omega) (by omega)]; exact b6 j h1 h2
  · obtain ⟨w1, w2, w3, w4, w5, w6, w7⟩ := s3.1
    refine ⟨by rw [sk 0 0 (by omega)]; exact w1, by rw [sk 0 1 (by omega)]; exact w2, by rw [sr 1 (by omega)]; exact w3, by rw [sr 2 (by omega)]; exact w4, by rw [sr 7 (by omega)]; exact w5, by rw [sr 7 (by omega)]; exact w6, by rw [sr 7 (by omega)]; exact w7⟩
  · obtain ⟨w1, w2, w3⟩ := s3.2.1
    exact ⟨w1, w2, by rw [sr 6 (by omega)]; exact w3⟩
  · rw [sk 0 1 (by omega)]; exact s3.2.2.1
  · rw [sk 0 3 (by omega)]; exact s3.2.2.2
  · rw [sk 0 3 (by omega), q7 32 (by omega) (by omega) (by omega)]; exact s4
  · rw [q 716 (by omega) (by omega), sr 6 (by omega)]; exact s5 k hk
  · rw [w4, zst_k (by omega), zst_v]
  · rw [w204, zst_v]
