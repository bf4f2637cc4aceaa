/-! ===== end ===== -/
theorem q_end {B : Nat} (x : Int32) : Qy B (zfX11_end x) (zfX12_end x) := by
  rintro σ ⟨P, rc, s, hI⟩
  obtain ⟨n, t, h1, h2, h3, h4, h5⟩ := id hI.1
  have e0 : x < 0 ↔ x.toInt < 0 := by rw [Int32.lt_iff_toInt_lt]; exact Iff.rfl
  have en : x ≤ nI n ↔ x.toInt ≤ n := by rw [Int32.le_iff_toInt_le, n_ti (by omega)]
  have bad : (x < 0 ∨ ¬ x ≤ nI n) → Ok (zfX12_end x σ) (fun b => b.1 = 0 ∧ Iv (B + 31) b.2) := fun h => by
    unfold zfX12_end
    refine ok_lg (fun υ e => ?_)
    refine ok_lg (fun J hJ => ?_)
    have fin : Ok (J υ) (fun b => b.1 = 0 ∧ Iv (B + 31) b.2) := by
      simp only [hJ]
      rw [ok_s]
      subst e
      exact ⟨rfl, Iv.up ⟨P, rc, s, hI.z0⟩ (by omega)⟩
    by_cases c : x < 0
    · rw [if_pos c]; exact fin
    · rw [if_neg c, show υ 703 6 = nI n by rw [e, zst_k (by omega)]; exact h3, if_neg (h.resolve_left c)]; exact fin
  unfold zfX11_end
  refine ok_lg (fun J hJ => ?_)
  rw [h2]
  by_cases c1 : x < 0
  · rw [if_pos c1]
    simp only [hJ]
    rw [ok_s]
    exact bad (Or.inl c1)
  · rw [if_neg c1]
    by_cases c2 : x ≤ nI n
    case neg =>
      rw [if_neg c2]
      simp only [hJ]
      rw [ok_s]
      exact bad (Or.inr c2)
    case pos =>
      rw [if_pos c2]
      refine ok_lg (fun τ eτ => ?_)
      rw [ok_s]
      dsimp only
      unfold zfX12_end
      refine ok_lg (fun υ e => ?_)
      refine ok_lg (fun J2 hJ2 => ?_)
      rw [if_neg c1, show υ 703 6 = nI n by rw [e, zst_k (by omega), eτ, zst_n (by omega)]; exact h3, if_pos c2]
      refine ok_lg (fun φ eφ => ?_)
      rw [ok_s]
      have h0 : ¬ x.toInt < 0 := fun h => c1 (e0.mpr h)
      have hx := en.mp c2
      have q : ∀ c, c ≠ 1 → c ≠ 703 → φ c = σ c := fun c a b => by rw [eφ, zst_n b, e, zst_n b, eτ, zst_n a]
      have q7 : ∀ k, k ≠ 0 → k ≠ 6 → φ 703 k = σ 703 k := fun k a b => by rw [eφ, zst_k b, e, zst_k a, eτ, zst_n (by omega)]
      have v1 : φ 1 1 = x := by rw [eφ, zst_n (by omega), e, zst_n (by omega), eτ, zst_v]
      have v6 : φ 703 6 = x := by rw [eφ, zst_v]
      have ex : x = nI (ix x) := n_of (by omega)
      have hi : ix x ≤ n := by unfold ix Int32.toNatClampNeg; omega
      refine ⟨rfl, ?_⟩
      show Iv (B + 31) φ
      refine Iv.up ⟨P, rc, s, hI.chg (fun c hc => q c (by omega) (by omega)) ⟨by rw [q 0 (by omega) (by omega)], by rw [q 0 (by omega) (by omega)]⟩ (fun k hk => q7 k (by omega) (by omega)) ?_ (IvW.of hI.2.2.2.2.1 (fun c hc => q c (by omega) (by omega)) (fun k hk => q7 k (by omega) (by omega))) ⟨by rw [q 0 (by omega) (by omega), q7 33 (by omega) (by omega)]; exact hI.2.2.2.2.2.1.1, by rw [q 0 (by omega) (by omega)]; exact hI.2.2.2.2.2.1.2⟩⟩ (by omega)
      exact ⟨ix x, t, by omega, by rw [v1]; exact ex, by rw [v6]; exact ex, fun k hk => by rw [q 2 (by omega) (by omega)]; exact h4 k (by omega), fun k hk => by rw [q 704 (by omega) (by omega)]; exact h5 k (by omega)⟩
