/-! ===== buyers answers alike ===== -/
theorem q_buyers {B : Nat} (x y : Int32) : Qy B (fun σ => bd (zfX11_buyers x y σ) (fun r => some (r, σ))) (zfX12_buyers x y) := by
  refine q_pure (fun P rc s σ hI => ?_)
  have hm := hI.2.1.1.2.1
  have hs := fun (τ : Mm) (hτ : Ivx B P rc s τ) => q_sort (σ := σ) (τ := τ) (x := x) hm hI.2.2.1.2.1 hτ.2.2.1.2.2.2.1
  have hi3 : zfX12_isIn y.toInt64 0 3 = if y < 0 ∨ 3 < y then 0 else 1 := r_isIn (a := 0) (b := 3)
  have hM := hI.2.2.1.2.2.2.2.2.2.1
  have goal : ∃ v, zfX11_buyers x y σ = some v ∧ ∀ υ, Ivx B P rc s υ → υ = zst σ 703 0 0 → Ok (zfX12_buyers x y σ) (fun b => b.1 = v ∧ FrS υ b.2) := by
    have ref0 : (zfX11_isSort x σ = 0 ∨ y < 0 ∨ 3 < y) → ∀ υ, Ivx B P rc s υ → υ = zst σ 703 0 0 → Ok (zfX12_buyers x y σ) (fun b => b.1 = -1 ∧ FrS υ b.2) := fun h υ hυ e => by
      unfold zfX12_buyers
      refine ok_lg (fun υ' e' => ?_)
      have : υ' = υ := e'.trans e.symm
      subst this
      refine ok_lg (fun J hJ => ?_)
      have fin : Ok (J υ') (fun b => b.1 = -1 ∧ FrS υ' b.2) := by
        simp only [hJ]
        rw [ok_s]
        exact ⟨rfl, FrS.refl⟩
      by_cases c : zfX12_isIn x.toInt64 0 (Int32.toInt64 ((υ' 703 25) - 1)) = 0
      · rw [if_pos c]; exact fin
      · have c3 : ¬ zfX11_isSort x σ = 0 := fun h => c ((hs υ' hυ).2 h)
        rw [if_neg c, hi3, if_pos (h.resolve_left c3), if_pos rfl]; exact fin
    unfold zfX11_buyers
    by_cases c0 : zfX11_isSort x σ = 0
    · rw [if_pos c0]
      exact ⟨-1, rfl, ref0 (Or.inl c0)⟩
    · rw [if_neg c0]
      obtain ⟨_, i, i1, i2⟩ := (hs σ hI).1 c0
      subst i2
      have hin : inb (nI i) 6 := (n_in (by omega)).mpr (by omega)
      have ref1 : ∀ (k : Nat) (v : Int32), k < 3 → y = nI k → σ 709 (3 * i + k) = v → ∀ υ, Ivx B P rc s υ → υ = zst σ 703 0 0 → Ok (zfX12_buyers (nI i) y σ) (fun b => b.1 = v ∧ FrS υ b.2) := fun k v hk hy hv υ hυ e => by
        unfold zfX12_buyers
        refine ok_lg (fun υ' e' => ?_)
        have : υ' = υ := e'.trans e.symm
        subst this
        refine ok_lg (fun J hJ => ?_)
        rw [if_neg ((hs υ' hυ).1 c0).1, hi3, hy, if_neg (show ¬ (nI k < 0 ∨ 3 < nI k) by
          rintro (h | h)
          · exact n_nlt0 (by omega) h
          · have := (n_lt (a := 3) (b := k) (by omega) (by omega)).mp h; omega), if_neg (by decide), if_neg (show ¬ (3 : Int32) ≤ nI k by rw [show (3 : Int32) = nI 3 from rfl, n_le (by omega) (by omega)]; omega), show (3 : Int32) * nI i + nI k = nI (3 * i + k) by rw [show (3 : Int32) * nI i = nI (3 * i) from n_mul 3 i, n_add], ck_t ((n_in (by omega)).mpr (by omega)), ok_s, n_ix (by omega)]
        exact ⟨by dsimp only; rw [e, zst_n (by omega)]; exact hv, FrS.refl⟩
      have hMi := hM i i1
      by_cases y0 : y = 0
      · rw [if_pos y0, ck_t hin, n_ix (by omega)]
        exact ⟨_, rfl, ref1 0 _ (by omega) y0 (by rw [hMi.1]; exact hMi.2.2.2.2.1)⟩
      rw [if_neg y0]
      by_cases y1 : y = 1
      · rw [if_pos y1, ck_t hin, n_ix (by omega)]
        exact ⟨_, rfl, ref1 1 _ (by omega) y1 (by rw [hMi.2.1]; exact hMi.2.2.2.2.2.1)⟩
      rw [if_neg y1]
      by_cases y2 : y = 2
      · rw [if_pos y2, ck_t hin, n_ix (by omega)]
        exact ⟨_, rfl, ref1 2 _ (by omega) y2 (by rw [hMi.2.2.1]; exact hMi.2.2.2.2.2.2)⟩
      rw [if_neg y2]
      by_cases y3 : y = 3
      · rw [if_pos y3]
        have hst := hI.2.2.2.2.1
        obtain ⟨⟨⟨a1, a2, a3, a4, a5⟩, s2, s3⟩, _⟩ := hst
        rw [wr_self] at s2
        have hwa := (hI.2.1.1.2.2.2.2.2.1 i i1).2.1
        obtain ⟨r, hr, hr2⟩ := c_wait (q := 27) (i := i) (σ := σ) (f := fun j => s 7 (4 * i + (j + 1))) (by omega) (fun j hj => a5 _ (by omega))
        refine ⟨r, by rw [hr]; rfl, fun υ hυ e => ?_⟩
        unfold zfX12_buyers
        refine ok_lg (fun υ' e' => ?_)
        have : υ' = υ := e'.trans e.symm
        subst this
        refine ok_lg (fun J hJ => ?_)
        rw [if_neg ((hs υ' hυ).1 c0).1, hi3, y3, if_neg (show ¬ ((3 : Int32) < 0 ∨ (3 : Int32) < 3) by decide), if_neg (show ¬ (1 : Int32) = 0 by decide), if_pos (show (3 : Int32) ≤ 3 by decide), ok_bd]
        refine ok_mono (r_wait (i := i) (σ := υ') (f := fun k => if k < pwa P i then s 7 (4 * i + (pwa P i - k)) else 0) (by omega) (fun j hj => by rw [e, zst_n (by omega)]; exact s2.2.2.2.2.1 i j i1 hj)) (fun r2 hr2' => ?_)
        rw [ok_s]
        refine ⟨?_, FrS.refl⟩
        dsimp only
        rw [hr2', hr2, cw_eq (w := pwa P i) hwa (fun j h1 h2 => s3.1.2.2.2.2.2.1 i (j + 1) i1 (by omega) (Or.inr (by omega)))]
        congr 1
        funext k
        by_cases c : k < pwa P i
        · rw [if_pos c, if_pos c, show pwa P i - (k + 1) + 1 = pwa P i - k by omega]
        · rw [if_neg c, if_neg c]
      rw [if_neg y3]
      refine ⟨-1, rfl, ref0 (Or.inr ?_)⟩
      have e0 : y < 0 ↔ y.toInt < 0 := by rw [Int32.lt_iff_toInt_lt]; exact Iff.rfl
      have e3 : (3 : Int32) < y ↔ 3 < y.toInt := by rw [Int32.lt_iff_toInt_lt]; exact Iff.rfl
      have t : ∀ k : Int32, y ≠ k → y.toInt ≠ k.toInt := fun k h h2 => h (Int32.toInt_inj.mp h2)
      have t0 : y.toInt ≠ 0 := t 0 y0
      have t1 : y.toInt ≠ 1 := t 1 y1
      have t2 : y.toInt ≠ 2 := t 2 y2
      have t3 : y.toInt ≠ 3 := t 3 y3
      rw [e0, e3]; omega
  obtain ⟨v, hv, h2⟩ := goal
  rw [hv, bd_some, ok_s]
  exact ⟨FrS.refl, fun υ hυ e => h2 υ hυ e⟩
