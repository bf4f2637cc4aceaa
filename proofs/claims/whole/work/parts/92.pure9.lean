/-! ===== hold ===== -/
theorem hs_s : ∀ n, n < 32 → (nI n &&& 31).toBitVec.smod 32 = BitVec.ofNat 32 n := by decide
theorem hs_m : ∀ n, n < 32 → ((1 : Int32) <<< (nI n &&& 31)).toBitVec = BitVec.twoPow 32 n := by decide
theorem hs_1 : (1 : Int32).toBitVec = 1#32 := rfl
theorem hs_0 : (0 : Int32).toBitVec = 0#32 := rfl
theorem hs_n : (-1 : Int32).toBitVec = BitVec.allOnes 32 := by decide
theorem hs_b {y : BitVec 32} : y &&& 1#32 = 0#32 ↔ y.getLsbD 0 = false := by
  constructor
  · intro h
    have := congrArg (fun z : BitVec 32 => z.getLsbD 0) h
    simpa using this
  · intro h
    apply BitVec.eq_of_getLsbD_eq
    intro i hi
    by_cases e : i = 0
    · subst e; rw [BitVec.getLsbD_and, h]; rfl
    · simp [BitVec.getLsbD_and, e]
theorem hob_iff {x : Int32} {k : Nat} (hk : k < 32) : hob x k ↔ x.toBitVec.getLsbD k = true := by
  unfold hob
  rw [← Int32.toBitVec_inj, Int32.toBitVec_and, Int32.toBitVec_shiftRight, hs_s k hk, hs_1, hs_0, hs_b, BitVec.sshiftRight_eq', BitVec.getLsbD_sshiftRight, BitVec.toNat_ofNat, Nat.mod_eq_of_lt (show k < 2 ^ 32 by omega), if_pos (by omega)]
  simp
theorem hob_or {x : Int32} {k j : Nat} (hk : k < 32) (hj : j < 32) : hob (x ||| ((1 : Int32) <<< (nI k &&& 31))) j ↔ hob x j ∨ j = k := by
  rw [hob_iff hj, hob_iff hj, Int32.toBitVec_or, hs_m k hk, BitVec.getLsbD_or, BitVec.getLsbD_twoPow]
  by_cases e : j = k
  · subst e; simp [hj]
  · have e2 : ¬ k = j := fun h => e h.symm
    simp [e, e2]
theorem hob_an {x : Int32} {k j : Nat} (hk : k < 32) (hj : j < 32) : hob (x &&& (((1 : Int32) <<< (nI k &&& 31)) ^^^ (-1))) j ↔ hob x j ∧ j ≠ k := by
  rw [hob_iff hj, hob_iff hj, Int32.toBitVec_and, Int32.toBitVec_xor, hs_m k hk, hs_n, BitVec.getLsbD_and, BitVec.getLsbD_xor, BitVec.getLsbD_twoPow, BitVec.getLsbD_allOnes]
  by_cases e : j = k
  · subst e; simp [hj]
  · have e2 : ¬ k = j := fun h => e h.symm
    simp [e, e2, hj]
theorem xor_or {x : Int32} {k : Nat} (hk : k < 32) (h : ¬ hob x k) : x ^^^ ((1 : Int32) <<< (nI k &&& 31)) = x ||| ((1 : Int32) <<< (nI k &&& 31)) := by
  rw [hob_iff hk] at h
  rw [← Int32.toBitVec_inj, Int32.toBitVec_xor, Int32.toBitVec_or, hs_m k hk]
  apply BitVec.eq_of_getLsbD_eq
  intro j hj
  rw [BitVec.getLsbD_xor, BitVec.getLsbD_or, BitVec.getLsbD_twoPow]
  by_cases e : j = k
  · subst e; rw [Bool.eq_false_iff.mpr h]; simp [hj]
  · have e2 : ¬ k = j := fun h => e h.symm
    simp [e2]
theorem xor_an {x : Int32} {k : Nat} (hk : k < 32) (h : hob x k) : x ^^^ ((1 : Int32) <<< (nI k &&& 31)) = x &&& (((1 : Int32) <<< (nI k &&& 31)) ^^^ (-1)) := by
  rw [hob_iff hk] at h
  rw [← Int32.toBitVec_inj, Int32.toBitVec_xor, Int32.toBitVec_and, Int32.toBitVec_xor, hs_m k hk, hs_n]
  apply BitVec.eq_of_getLsbD_eq
  intro j hj
  rw [BitVec.getLsbD_xor, BitVec.getLsbD_and, BitVec.getLsbD_xor, BitVec.getLsbD_twoPow, BitVec.getLsbD_allOnes]
  by_cases e : j = k
  · subst e; simp [hj, h]
  · have e2 : ¬ k = j := fun h => e h.symm
    simp [e2, hj]
theorem has_h {q i : Nat} {σ τ : Mm} (e : σ q 3 = τ 703 32) : zfX8_isHolding q (nI i) σ = zfX12_has (τ 703 32) (nI i) := by
  have h1 := c_hold (q := q) (k := i) (σ := σ)
  have h2 := r_has (x := τ 703 32) (k := i)
  rw [e] at h1
  have z1 : zfX8_isHolding q (nI i) σ = 0 ∨ zfX8_isHolding q (nI i) σ = 1 := by
    unfold zfX8_isHolding; split
    · exact Or.inl rfl
    · exact Or.inr rfl
  have z2 : zfX12_has (τ 703 32) (nI i) = 0 ∨ zfX12_has (τ 703 32) (nI i) = 1 := by
    unfold zfX12_has; split
    · exact Or.inr rfl
    · exact Or.inl rfl
  by_cases c : hob (τ 703 32) i
  · rw [z1.resolve_left (fun h => h1.mp h c), z2.resolve_left (fun h => h2.mp h c)]
  · rw [h1.mpr c, h2.mpr c]
/-- now with other holds, on both sides -/
theorem IvW.holds {P : Pm} {rc B : Nat} {s σ τ : Mm} {v : Int32} (h : IvW P rc B s σ) (hv : ∀ k, pn P ≤ k → k < 6 → ¬ hob v k) (f27 : ∀ k, k ≠ 3 → τ 27 k = σ 27 k) (fc : ∀ c, (28 ≤ c ∧ c ≤ 36 ∨ c = 714 ∨ c = 716) → τ c = σ c) (f7 : ∀ k, (k = 34 ∨ k = 234) → τ 703 k = σ 703 k) (v1 : τ 27 3 = v) (v2 : τ 703 32 = v) : IvW P rc B (zst s 0 3 v) τ := by
  obtain ⟨⟨⟨a1, a2, a3, a4, a5⟩, s2, s3⟩, s4, s5, s6, s7⟩ := h
  rw [wr_self] at s2
  have sk : ∀ i k, (i ≠ 0 ∨ k ≠ 3) → zst s 0 3 v i k = s i k := fun i k h => by
    by_cases c : i = 0
    · subst c
      rw [zst_k (by omega)]
    · rw [zst_n c]
  have sr : ∀ i, i ≠ 0 → zst s 0 3 v i = s i := fun i h => by rw [zst_n h]
  refine ⟨⟨⟨fun k hk => ?_, ?_, ?_, fun i k hi hk => ?_, fun k hk => ?_⟩, ?_, ?_, ?_, ?_, ?_⟩, ?_, fun k hk => ?_, ?_, ?_⟩
  · by_cases c : k = 3
    · subst c; rw [v1, zst_v]
    · rw [f27 k c, sk 0 k (by omega)]; exact a1 k hk
  · rw [f27 4 (by omega), sk 0 4 (by omega)]; exact a2
  · rw [f27 204 (by omega), sk 0 204 (by omega)]; exact a3
  · rw [fc _ (by omega), sr i (by omega)]; exact a4 i k hi hk
  · rw [fc _ (by omega), sr 7 (by omega)]; exact a5 k hk
  · rw [wr_self]
    obtain ⟨b1, b2, b3, b4, b5, b6⟩ := s2
    refine ⟨fun k hk => ?_, ?_, ?_, ?_, fun i k hi hk => ?_, fun j h1 h2 => ?_⟩
    · rw [fc 714 (by omega), sr 1 (by omega), sr 2 (by omega), sr 3 (by omega), sr 4 (by omega), sr 5 (by omega)]; exact b1 k hk
    · rw [fc 714 (by omega), sk 0 0 (by omega)]; exact b2
    · rw [fc 714 (by omega), sk 0 2 (by omega)]; exact b3
    · rw [fc 714 (by omega), sk 0 1 (by omega)]; exact b4
    · rw [fc 714 (by omega), sr 7 (by omega)]; exact b5 i k hi hk
    · rw [fc 714 (by omega)]; exact b6 j h1 h2
  · obtain ⟨w1, w2, w3, w4, w5, w6, w7⟩ := s3.1
    exact ⟨by rw [sk 0 0 (by omega)]; exact w1, by rw [sk 0 1 (by omega)]; exact w2, by rw [sr 1 (by omega)]; exact w3, by rw [sr 2 (by omega)]; exact w4, by rw [sr 7 (by omega)]; exact w5, by rw [sr 7 (by omega)]; exact w6, by rw [sr 7 (by omega)]; exact w7⟩
  · obtain ⟨w1, w2, w3⟩ := s3.2.1
    exact ⟨w1, w2, by rw [sr 6 (by omega)]; exact w3⟩
  · rw [sk 0 1 (by omega)]; exact s3.2.2.1
  · rw [zst_v]; exact hv
  · rw [zst_v, v2]
  · rw [fc 716 (by omega), sr 6 (by omega)]; exact s5 k hk
  · rw [f7 34 (by omega), sk 0 4 (by omega)]; exact s6
  · rw [f7 234 (by omega), sk 0 204 (by omega)]; exact s7
theorem q_hold {B : Nat} (x : Int32) {y : Int32} (hy : y = 0 ∨ y = 1) : Qy B (zfX11_hold x y) (zfX12_hold x y) := by
  rintro σ ⟨P, rc, s, hI⟩
  have hn := hI.n.1
  have hs := fun (τ : Mm) (h : τ 703 24 = nI (pn P)) => q_sel (σ := σ) (τ := τ) (x := x) hn hI.n.2.1 h
  have e3 : σ 27 3 = σ 703 32 := (hI.2.2.2.2.1.1.1.1 3 (by omega)).trans hI.2.2.2.2.1.2.1
  have bad : (zfX11_isSeller x σ = 0 ∨ zfX12_has (σ 703 32) x = y) → Ok (zfX12_hold x y σ) (fun b => b.1 = 0 ∧ Iv (B + 31) b.2) := fun h => by
    unfold zfX12_hold
    refine ok_lg (fun υ e => ?_)
    refine ok_lg (fun J hJ => ?_)
    have fin : Ok (J υ) (fun b => b.1 = 0 ∧ Iv (B + 31) b.2) := by
      simp only [hJ]
      rw [ok_s]
      subst e
      exact ⟨rfl, Iv.up ⟨P, rc, s, hI.z0⟩ (by omega)⟩
    by_cases c : zfX12_isSeller x υ = 0
    · rw [if_pos c]; exact fin
    · rw [if_neg c]
      have hc : ¬ zfX11_isSeller x σ = 0 := fun h => c ((hs υ (by rw [e, zst_k (by omega)]; exact hI.n.2.2)).2 h)
      have h32 : υ 703 32 = σ 703 32 := by rw [e, zst_k (by omega)]
      rw [h32, if_pos (h.resolve_left hc)]; exact fin
  unfold zfX11_hold
  refine ok_lg (fun J hJ => ?_)
  have fin : (zfX11_isSeller x σ = 0 ∨ zfX12_has (σ 703 32) x = y) → Ok (J σ) (fun a => Ok (zfX12_hold x y a.2) (fun b => b.1 = a.1 ∧ Iv (B + 31) b.2)) := fun h => by
    simp only [hJ]
    rw [ok_s]
    exact bad h
  by_cases c0 : zfX11_isSeller x σ = 0
  case pos => rw [if_pos c0]; exact fin (Or.inl c0)
  case neg =>
  rw [if_neg c0]
  obtain ⟨_, i, i1, i2⟩ := (hs σ hI.n.2.2).1 c0
  subst i2
  have eh := has_h (q := 27) (i := i) (σ := σ) (τ := σ) e3
  rw [eh]
  by_cases c1 : zfX12_has (σ 703 32) (nI i) = y
  case pos => rw [if_pos c1]; exact fin (Or.inr c1)
  case neg =>
  rw [if_neg c1]
  have hb : y = 0 → hob (σ 703 32) i := fun h => Classical.byContradiction fun h2 => c1 (by rw [h]; exact r_has.mpr h2)
  have hb1 : y = 1 → ¬ hob (σ 703 32) i := fun h h2 => by
    have : zfX12_has (σ 703 32) (nI i) = 0 ∨ zfX12_has (σ 703 32) (nI i) = 1 := by
      unfold zfX12_has; split
      · exact Or.inr rfl
      · exact Or.inl rfl
    rcases this with h3 | h3
    · exact r_has.mp h3 h2
    · exact c1 (h3.trans h.symm)
  have hnb := hI.2.2.2.2.1.1.2.2.2.2.2
  rw [hI.2.2.2.2.1.2.1] at hnb
  have key : ∀ τ, τ = zst σ 27 3 (σ 703 32 ^^^ ((1 : Int32) <<< (nI i &&& 31))) → (∀ k, pn P ≤ k → k < 6 → ¬ hob (σ 703 32 ^^^ ((1 : Int32) <<< (nI i &&& 31))) k) → Ok (zfX12_hold (nI i) y τ) (fun b => b.1 = 1 ∧ Iv (B + 31) b.2) := fun τ eτ hv => by
    unfold zfX12_hold
    refine ok_lg (fun υ e => ?_)
    refine ok_lg (fun J2 hJ2 => ?_)
    have h24 : υ 703 24 = nI (pn P) := by rw [e, zst_k (by omega), eτ, zst_n (by omega)]; exact hI.n.2.2
    have h32 : υ 703 32 = σ 703 32 := by rw [e, zst_k (by omega), eτ, zst_n (by omega)]
    rw [if_neg ((hs υ h24).1 c0).1, h32, if_neg c1]
    refine ok_lg (fun φ eφ => ?_)
    rw [ok_s]
    generalize σ 703 32 ^^^ ((1 : Int32) <<< (nI i &&& 31)) = v at *
    have q : ∀ c, c ≠ 27 → c ≠ 703 → φ c = σ c := fun c a b => by rw [eφ, zst_n b, e, zst_n b, eτ, zst_n a]
    have q2 : ∀ k, k ≠ 3 → φ 27 k = σ 27 k := fun k a => by rw [eφ, zst_n (by omega), e, zst_n (by omega), eτ, zst_k a]
    have q7 : ∀ k, k ≠ 0 → k ≠ 32 → φ 703 k = σ 703 k := fun k a b => by rw [eφ, zst_k b, e, zst_k a, eτ, zst_n (by omega)]
    have v1 : φ 27 3 = v := by rw [eφ, zst_n (by omega), e, zst_n (by omega), eτ, zst_v]
    have v2 : φ 703 32 = v := by rw [eφ, zst_v]
    refine ⟨rfl, ?_⟩
    show Iv (B + 31) φ
    exact Iv.up ⟨P, rc, zst s 0 3 v, hI.chg (fun c hc => q c (by omega) (by omega)) ⟨by rw [q 0 (by omega) (by omega)], by rw [q 0 (by omega) (by omega)]⟩ (fun k hk => q7 k (by omega) (by omega)) (hI.1.of (by rw [q 1 (by omega) (by omega)]) (q 2 (by omega) (by omega)) (q7 6 (by omega) (by omega)) (q 704 (by omega) (by omega))) (IvW.holds hI.2.2.2.2.1 hv q2 (fun c hc => q c (by omega) (by omega)) (fun k hk => q7 k (by omega) (by omega)) v1 v2) ⟨by rw [q 0 (by omega) (by omega), q7 33 (by omega) (by omega)]; exact hI.2.2.2.2.2.1.1, by rw [q 0 (by omega) (by omega)]; exact hI.2.2.2.2.2.1.2⟩⟩ (by omega)
  unfold zfX8_setHolding
  rw [ok_bd]
  refine ok_lg (fun J3 hJ3 => ?_)
  rcases hy with hy | hy
  · rw [if_pos hy]
    simp only [hJ3]
    refine ok_lg (fun τ eτ => ?_)
    rw [ok_s, ok_s]
    rw [e3, ← xor_an (by omega) (hb hy)] at eτ
    refine key τ eτ (fun k h1 h2 => ?_)
    rw [xor_an (by omega) (hb hy), hob_an (by omega) (by omega)]
    exact fun h => hnb k h1 h2 h.1
  · rw [if_neg (by rw [hy]; decide)]
    simp only [hJ3]
    refine ok_lg (fun τ eτ => ?_)
    rw [ok_s, ok_s]
    rw [e3, ← xor_or (by omega) (hb1 hy)] at eτ
    refine key τ eτ (fun k h1 h2 => ?_)
    rw [xor_or (by omega) (hb1 hy), hob_or (by omega) (by omega)]
    rintro (h | h)
    · exact hnb k h1 h2 h
    · omega
