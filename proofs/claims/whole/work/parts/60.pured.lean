/-! ===== the reference sells ===== -/
theorem and1 (y : Int32) : y &&& 1 = 0 ∨ y &&& 1 = 1 := by
  have h : (y &&& 1).toInt = 0 ∨ (y &&& 1).toInt = 1 := by
    have e : (y &&& 1).toBitVec = y.toBitVec &&& 1#32 := rfl
    have e2 : (y &&& 1).toBitVec.toNat = y.toBitVec.toNat % 2 := by
      rw [e, BitVec.toNat_and]
      exact Nat.and_one_is_mod _
    have e3 : (y &&& 1).toInt = (y &&& 1).toBitVec.toInt := rfl
    rw [e3, BitVec.toInt_eq_toNat_cond, e2]
    have : y.toBitVec.toNat % 2 = 0 ∨ y.toBitVec.toNat % 2 = 1 := by omega
    rcases this with h | h <;> rw [h] <;> simp
  rcases h with h | h
  · left; rw [← Int32.toInt_inj, h]; rfl
  · right; rw [← Int32.toInt_inj, h]; rfl
theorem r_has {x : Int32} {k : Nat} : (zfX12_has x (nI k) = 0) ↔ ¬ hob x k := by
  unfold zfX12_has hob
  rcases and1 (x >>> (nI k &&& 31)) with h | h
  · rw [h, if_neg (by decide)]; simp
  · rw [h, if_pos rfl]; simp
section
variable {n N : Nat} {h0 : Int32} {g0 : Nat → Nat} {ask ga : Nat → Int32} {σ0 σ : Mm}
/-- the reference in the midst of a sale -/
def SR (n N : Nat) (g0 : Nat → Nat) (ask ga : Nat → Int32) (σ0 σ : Mm) (d : Nat → Nat) (sur : Int32) (bm gm ww : Nat → Int32) : Prop :=
  (∀ k, k < n → σ 714 k = nI (g0 k - d k) ∧ σ 714 (12 + k) = ga k + nI (d k) * ask k ∧ σ 714 (24 + k) = nI (d k) ∧ σ 719 k = nI (d k) * ask k) ∧ σ 714 55 = sur ∧ (n < N → σ 703 45 = nI (d n)) ∧
  (∀ i, i < 6 → σ 723 i = bm i ∧ σ 724 i = gm i) ∧ (∀ j, j < 24 → σ 714 (30 + j) = ww j) ∧ (∀ k, d k ≤ g0 k) ∧
  (∀ k, (n ≤ k ∧ k < 12 ∨ 18 ≤ k ∧ k < 24 ∨ k = 54 ∨ k = 56) → σ 714 k = σ0 714 k) ∧ (∀ k, k ≠ 45 → σ 703 k = σ0 703 k) ∧ (N = n → σ 703 45 = σ0 703 45) ∧
  (∀ c, c ≠ 703 → c ≠ 714 → c ≠ 719 → c ≠ 723 → c ≠ 724 → σ c = σ0 c)
/-- what stays through a sale -/
def SRk (n N : Nat) (h0 : Int32) (g0 : Nat → Nat) (ask : Nat → Int32) (σ0 : Mm) : Prop := n ≤ 5 ∧ (N = n ∨ N = n + 1) ∧ σ0 703 24 = nI n ∧ σ0 703 41 = h0 ∧ (∀ k, k < N → σ0 718 k = ask k) ∧ (∀ k, n ≤ k → k < 6 → ¬ hob h0 k) ∧ (∀ k, g0 k ≤ 99) ∧
  (N = n → σ0 703 43 = 0 ∧ σ0 703 45 = 0) ∧ (N = n + 1 → σ0 703 43 = nI (g0 n))
theorem r_isSelling {d : Nat → Nat} {sur : Int32} {bm gm ww : Nat → Int32} (hK : SRk n N h0 g0 ask σ0) (hS : SR n N g0 ask ga σ0 σ d sur bm gm ww) {k : Nat} (hk : k ≤ n) : ∃ r, zfX12_isSelling (nI k) σ = some r ∧ (r = 0 ↔ ¬ sel N (hob h0) g0 d k) := by
  obtain ⟨k1, k2, k3, k4, k5, k6, k7, k8, k9⟩ := hK
  obtain ⟨s1, s2, s3, s4, s5, s6, s7, s8, s9, s10⟩ := hS
  unfold zfX12_isSelling
  rw [s8 24 (by decide), k3, s8 43 (by decide)]
  by_cases e : k = n
  · subst e
    rw [if_pos rfl]
    rcases k2 with hN | hN
    · rw [(k8 hN).1, s9 hN, (k8 hN).2, if_pos (by decide)]
      exact ⟨0, rfl, fun _ h => by have := h.1; omega, fun _ => rfl⟩
    · rw [k9 hN, s3 (by omega)]
      have g1 := k7 k; have g2 := s6 k
      by_cases c : g0 k ≤ d k
      · rw [if_pos (by rw [n_le (by omega) (by omega)]; exact c)]
        exact ⟨0, rfl, fun _ h => by have := h.2.1; omega, fun _ => rfl⟩
      · rw [if_neg (by rw [n_le (by omega) (by omega)]; exact c)]
        exact ⟨1, rfl, fun h => absurd h (by decide), fun h => absurd ⟨by omega, by omega, k6 k (by omega) (by omega)⟩ h⟩
  · have hkn : k < n := by omega
    have hne : ¬ nI k = nI n := by rw [n_eq (by omega) (by omega)]; exact e
    rw [if_neg hne, ck_t ((n_in (by omega)).mpr (by omega)), lt_p, n_ix (by omega), (s1 k hkn).1, s8 41 (by decide), k4]
    have g1 := k7 k
    by_cases c : g0 k - d k = 0
    · rw [c, if_pos (by decide)]
      exact ⟨0, rfl, fun _ h => by have := h.2.1; omega, fun _ => rfl⟩
    · have cn : ¬ nI (g0 k - d k) ≤ 0 := by rw [show (0 : Int32) = nI 0 from rfl, n_le (by omega) (by decide)]; omega
      rw [if_neg cn]
      by_cases ch : zfX12_has h0 (nI k) = 0
      · rw [if_pos ch]
        exact ⟨1, rfl, fun h => absurd h (by decide), fun h => absurd ⟨by omega, by omega, r_has.mp ch⟩ h⟩
      · rw [if_neg ch]
        exact ⟨0, rfl, fun _ h => ch (r_has.mpr h.2.2), fun _ => rfl⟩
theorem r_cheapest {d : Nat → Nat} {sur : Int32} {bm gm ww : Nat → Int32} (hK : SRk n N h0 g0 ask σ0) (hS : SR n N g0 ask ga σ0 σ d sur bm gm ww) :
    (zfX12_cheapest σ = some (-1) ∧ chp N (hob h0) g0 ask d = none) ∨ ∃ c, zfX12_cheapest σ = some (nI c) ∧ chp N (hob h0) g0 ask d = some c := by
  obtain ⟨k1, k2, k3, k4, k5, k6, k7, k8, k9⟩ := id hK
  have hsel : ∀ k, sel N (hob h0) g0 d k → k ≤ n := fun k h => by have := h.1; omega
  have h718 : σ 718 = σ0 718 := hS.2.2.2.2.2.2.2.2.2 718 (by decide) (by decide) (by decide) (by decide) (by decide)
  have h24 : σ 703 24 = nI n := by rw [hS.2.2.2.2.2.2.2.1 24 (by decide)]; exact k3
  unfold zfX12_cheapest
  rw [lt_p]
  have key : ∀ r k fu (best : Int32), k + r = n + 1 → r < fu → (best = -1 ∧ (∀ j, j < k → ¬ sel N (hob h0) g0 d j) ∨ ∃ c, c < k ∧ best = nI c ∧ sel N (hob h0) g0 d c ∧ ∀ j, j < k → sel N (hob h0) g0 d j → ask c < ask j ∨ ask c = ask j ∧ c ≤ j) →
      (zfX12_cheapest_L4 σ (fun x1_48 => some x1_48) fu best (nI k) = some (-1) ∧ chp N (hob h0) g0 ask d = none) ∨ ∃ c, zfX12_cheapest_L4 σ (fun x1_48 => some x1_48) fu best (nI k) = some (nI c) ∧ chp N (hob h0) g0 ask d = some c := by
    intro r
    induction r with
    | zero =>
      intro k fu best hk hf hI
      obtain ⟨fu, rfl⟩ : ∃ g, fu = g + 1 := ⟨fu - 1, by omega⟩
      have e : zfX12_cheapest_L4 σ (fun x1_48 => some x1_48) (fu + 1) best (nI k) = some best := by
        unfold zfX12_cheapest_L4
        rw [h24, if_pos (by rw [n_lt (by omega) (by omega)]; omega)]
      rw [e]
      rcases hI with ⟨rfl, h⟩ | ⟨c, hc, rfl, h1, h2⟩
      · exact Or.inl ⟨rfl, chp_no (fun j hj => h j (by have := hsel j hj; omega) hj)⟩
      · exact Or.inr ⟨c, rfl, chp_eq ⟨h1, fun j hj => h2 j (by have := hsel j hj; omega) hj⟩⟩
    | succ r ih =>
      intro k fu best hk hf hI
      obtain ⟨fu, rfl⟩ : ∃ g, fu = g + 1 := ⟨fu - 1, by omega⟩
      obtain ⟨v, hv, hv2⟩ := r_isSelling hK hS (k := k) (by omega)
      have step : ∀ b2, (zfX12_cheapest_L4 σ (fun x1_48 => some x1_48) (fu + 1) best (nI k) = zfX12_cheapest_L4 σ (fun x1_48 => some x1_48) fu b2 (nI (k + 1))) → (b2 = -1 ∧ (∀ j, j < k + 1 → ¬ sel N (hob h0) g0 d j) ∨ ∃ c, c < k + 1 ∧ b2 = nI c ∧ sel N (hob h0) g0 d c ∧ ∀ j, j < k + 1 → sel N (hob h0) g0 d j → ask c < ask j ∨ ask c = ask j ∧ c ≤ j) →
          (zfX12_cheapest_L4 σ (fun x1_48 => some x1_48) (fu + 1) best (nI k) = some (-1) ∧ chp N (hob h0) g0 ask d = none) ∨ ∃ c, zfX12_cheapest_L4 σ (fun x1_48 => some x1_48) (fu + 1) best (nI k) = some (nI c) ∧ chp N (hob h0) g0 ask d = some c := by
        intro b2 he hb
        rw [he]; exact ih (k + 1) fu b2 (by omega) (by omega) hb
      have un : zfX12_cheapest_L4 σ (fun x1_48 => some x1_48) (fu + 1) best (nI k) = if v = 0 then zfX12_cheapest_L4 σ (fun x1_48 => some x1_48) fu best (nI (k + 1)) else if best = -1 then zfX12_cheapest_L4 σ (fun x1_48 => some x1_48) fu (nI k) (nI (k + 1)) else ck (inb (nI k) 6) (ck (inb best 6) (if (σ 718 (ix best)) ≤ (σ 718 (ix (nI k))) then zfX12_cheapest_L4 σ (fun x1_48 => some x1_48) fu best (nI (k + 1)) else zfX12_cheapest_L4 σ (fun x1_48 => some x1_48) fu (nI k) (nI (k + 1)))) := by
        conv => lhs; unfold zfX12_cheapest_L4
        rw [h24, if_neg (by rw [n_lt (by omega) (by omega)]; omega), hv, bd_some]
        simp only [lt_p, show nI k + 1 = nI (k + 1) from n_add _ 1]
      by_cases c : v = 0
      · refine step best (by rw [un, if_pos c]) ?_
        have hno := hv2.mp c
        rcases hI with ⟨hb, h⟩ | ⟨c, hc, hb, h1, h2⟩
        · exact Or.inl ⟨hb, fun j hj => by
            by_cases e : j = k
            · subst e; exact hno
            · exact h j (by omega)⟩
        · exact Or.inr ⟨c, by omega, hb, h1, fun j hj hs => by
            by_cases e : j = k
            · subst e; exact absurd hs hno
            · exact h2 j (by omega) hs⟩
      · have hyes : sel N (hob h0) g0 d k := Classical.byContradiction fun q => c (hv2.mpr q)
        rcases hI with ⟨hb, h⟩ | ⟨c2, hc, hb, h1, h2⟩
        · refine step (nI k) (by rw [un, if_neg c, if_pos hb]) (Or.inr ⟨k, by omega, rfl, hyes, fun j hj hs => ?_⟩)
          by_cases e : j = k
          · subst e; exact Or.inr ⟨rfl, Nat.le_refl _⟩
          · exact absurd hs (h j (by omega))
        · subst hb
          have a1 : σ 718 c2 = ask c2 := by rw [h718]; exact k5 c2 h1.1
          have a2 : σ 718 k = ask k := by rw [h718]; exact k5 k hyes.1
          rw [n_ix (show c2 < 2147483648 by omega), n_ix (show k < 2147483648 by omega), a1, a2, if_neg c, if_neg (n_ne1 (by omega)), ck_t ((n_in (by omega)).mpr (by omega)), ck_t ((n_in (by omega)).mpr (by omega))] at un
          by_cases cc : ask c2 ≤ ask k
          · refine step (nI c2) (by rw [un, if_pos cc]) (Or.inr ⟨c2, by omega, rfl, h1, fun j hj hs => ?_⟩)
            by_cases e : j = k
            · subst e
              by_cases e2 : ask c2 = ask j
              · exact Or.inr ⟨e2, by omega⟩
              · left
                rw [Int32.le_iff_toInt_le] at cc
                rw [Int32.lt_iff_toInt_lt]
                have : (ask c2).toInt ≠ (ask j).toInt := fun q => e2 (Int32.toInt_inj.mp q)
                omega
            · exact h2 j (by omega) hs
          · refine step (nI k) (by rw [un, if_neg cc]) (Or.inr ⟨k, by omega, rfl, hyes, fun j hj hs => ?_⟩)
            have lt1 : ask k < ask c2 := by rw [Int32.le_iff_toInt_le] at cc; rw [Int32.lt_iff_toInt_lt]; omega
            by_cases e : j = k
            · subst e; exact Or.inr ⟨rfl, Nat.le_refl _⟩
            · left
              rcases h2 j (by omega) hs with g | ⟨g, -⟩
              · rw [Int32.lt_iff_toInt_lt] at g lt1 ⊢; omega
              · rw [← g]; exact lt1
  have := key (n + 1) 0 NF (-1) (by omega) (by unfold NF; omega) (Or.inl ⟨rfl, fun j hj => absurd hj (Nat.not_lt_zero j)⟩)
  rw [n_0] at this
  exact this
end
