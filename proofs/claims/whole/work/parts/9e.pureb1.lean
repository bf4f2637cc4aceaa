/-! ===== seller ===== -/
theorem q_seller {B : Nat} (x y : Int32) {σ τ : Mm} (hσ : Iv B σ) (hτ : ∀ c, c ≠ 739 → τ c = σ c) :
    (∃ v, zfX11_seller x y σ = some v ∧ Ok (zfX12_seller x y τ) (fun b => b.1 = v ∧ b.2 703 0 = 0 ∧ Iv (B + 31) b.2)) ∨
    ((zfX11_isSeller x σ = 0 ∨ (¬ zfX11_isSeller x σ = 0 ∧ ¬ zfX11_noWhat y 9 = 0)) ∧ Ok (zfX12_seller x y τ) (fun b => b.1 = 0 ∧ b.2 703 0 = 1 ∧ Iv (B + 31) b.2)) := by
  obtain ⟨P, rc, s, hI0⟩ := hσ
  have hn := hI0.n
  have frτ : FrS σ τ := ⟨fun c hc => hτ c (by omega), fun k _ => by rw [hτ 714 (by omega)], fun k _ => by rw [hτ 703 (by omega)]⟩
  have hI := hI0.fr frτ
  have hs := q_sel (σ := σ) (τ := τ) (x := x) hn.1 hn.2.1 (by rw [hτ 703 (by omega)]; exact hn.2.2)
  have hw : (zfX11_noWhat y 9 = 0 → (¬ zfX12_isIn y.toInt64 0 9 = 0) ∧ ∃ d, d ≤ 9 ∧ y = nI d) ∧ (¬ zfX11_noWhat y 9 = 0 → zfX12_isIn y.toInt64 0 9 = 0) := q_what2 9 (by omega)
  have fz : ∀ v : Int32, FrS τ (zst τ 703 0 v) := fun v => ⟨fun c hc => zst_n (by omega), fun k _ => by rw [zst_n (by omega)], fun k hk => zst_k (by omega)⟩
  have bad : (zfX11_isSeller x σ = 0 ∨ ¬ zfX11_noWhat y 9 = 0) → Ok (zfX12_seller x y τ) (fun b => b.1 = 0 ∧ b.2 703 0 = 1 ∧ Iv (B + 31) b.2) := fun h => by
    unfold zfX12_seller
    refine ok_lg (fun J hJ => ?_)
    refine ok_lg (fun J2 hJ2 => ?_)
    have fin : Ok (J2 τ) (fun b => b.1 = 0 ∧ b.2 703 0 = 1 ∧ Iv (B + 31) b.2) := by
      simp only [hJ2, hJ]
      refine ok_lg (fun φ e => ?_)
      have h0 : φ 703 0 = 1 := by rw [e, zst_v]
      rw [h0, if_neg (by decide), ok_s]
      refine ⟨rfl, h0, ?_⟩
      rw [e]
      exact Iv.up ⟨P, rc, s, hI.fr (fz 1)⟩ (by omega)
    by_cases c : zfX12_isSeller x τ = 0
    · rw [if_pos c]; exact fin
    · rw [if_neg c]
      have hc : ¬ zfX11_isSeller x σ = 0 := fun h => c (hs.2 h)
      rw [if_pos (hw.2 (h.resolve_left hc))]; exact fin
  by_cases c0 : zfX11_isSeller x σ = 0
  · exact Or.inr ⟨Or.inl c0, bad (Or.inl c0)⟩
  by_cases c1 : zfX11_noWhat y 9 = 0
  case neg => exact Or.inr ⟨Or.inr ⟨c0, c1⟩, bad (Or.inr c1)⟩
  left
  obtain ⟨s1, i, i1, i2⟩ := hs.1 c0
  obtain ⟨w1, d, d1, d2⟩ := hw.1 c1
  subst i2
  subst d2
  have hin6 : inb (nI i) 6 := (n_in (by omega)).mpr (by omega)
  have key : ∀ (v : Int32) (o : Mm → Option (Int32 × Mm)), zfX11_seller (nI i) (nI d) σ = some v → (∀ φ, (∀ c, c ≠ 703 → φ c = τ c) → (∀ k, k ≠ 0 → φ 703 k = τ 703 k) → o φ = some (v, φ)) →
      (∀ φ, (if 3 ≤ nI d then (if nI d = 3 then (ck (inb (nI i) 57) (some (φ 714 (ix (nI i)), φ))) else (if nI d = 4 then (ck (inb (6 + nI i) 57) (some (φ 714 (ix (6 + nI i)), φ))) else (if nI d = 5 then (ck (inb (12 + nI i) 57) (some (φ 714 (ix (12 + nI i)), φ))) else (if nI d = 6 then (ck (inb (nI i) 5) (some (φ 716 (ix (nI i)), φ))) else (if nI d = 7 then (if (zfX12_has (φ 703 32) (nI i)) = 0 then (some (0, φ)) else (some (1, φ))) else (if nI d = 8 then (ck (inb (18 + nI i) 57) (some (φ 714 (ix (18 + nI i)), φ))) else (ck (inb (24 + nI i) 57) (some (φ 714 (ix (24 + nI i)), φ))))))))) else (ck (inb ((3 * nI i) + nI d) 15) (some (φ 708 (ix ((3 * nI i) + nI d)), φ)))) = o φ) →
      ∃ v, zfX11_seller (nI i) (nI d) σ = some v ∧ Ok (zfX12_seller (nI i) (nI d) τ) (fun b => b.1 = v ∧ b.2 703 0 = 0 ∧ Iv (B + 31) b.2) := fun v o h1 h2 h3 => by
    refine ⟨v, h1, ?_⟩
    unfold zfX12_seller
    refine ok_lg (fun J hJ => ?_)
    refine ok_lg (fun J2 hJ2 => ?_)
    rw [if_neg s1, if_neg w1]
    simp only [hJ]
    refine ok_lg (fun φ e => ?_)
    have h0 : φ 703 0 = 0 := by rw [e, zst_v]
    rw [h0, if_pos (by decide), h3 φ, h2 φ (fun c hc => by rw [e, zst_n hc]) (fun k hk => by rw [e, zst_k hk]), ok_s]
    refine ⟨rfl, h0, ?_⟩
    dsimp only
    rw [e]
    exact Iv.up ⟨P, rc, s, hI.fr (fz 0)⟩ (by omega)
  have hM := hI.2.2.1.2.2.2.2.2.1 i i1
  have hA := hI0.2.2.2.2.1.1.1.2.2.2.1
  have hRR : RRs P τ s := by have := hI.2.2.2.2.1.1.2.1; rw [wr_self] at this; exact this
  have hR := hRR.1 i i1
  have hn5 := hn.1
  have ne : ∀ k : Nat, k < 10 → k ≠ d → ¬ nI d = nI k := fun k hk hd h => hd ((n_eq (by omega) (by omega)).mp h).symm
  have cl : ∀ v, (if nI d = 0 then ck (inb (nI i) 6) (some (σ 4 (ix (nI i)))) else if nI d = 1 then ck (inb (nI i) 6) (some (σ 5 (ix (nI i)))) else if nI d = 2 then ck (inb (nI i) 6) (some (σ 6 (ix (nI i)))) else if nI d = 3 then ck (inb (nI i) 6) (some (σ 28 (ix (nI i)))) else if nI d = 4 then ck (inb (nI i) 6) (some (σ 29 (ix (nI i)))) else if nI d = 5 then ck (inb (nI i) 6) (some (σ 30 (ix (nI i)))) else if nI d = 6 then ck (inb (nI i) 6) (some (σ 33 (ix (nI i)))) else if nI d = 7 then (if zfX8_isHolding 27 (nI i) σ = 0 then some 0 else some 1) else if nI d = 8 then ck (inb (nI i) 6) (some (σ 31 (ix (nI i)))) else ck (inb (nI i) 6) (some (σ 32 (ix (nI i))))) = some v → zfX11_seller (nI i) (nI d) σ = some v := fun v h => by
    unfold zfX11_seller
    rw [lt_p]
    show (if zfX11_isSeller (nI i) σ = 0 then none else _) = _
    rw [if_neg c0, show zfX11_noWhat (nI d) 9 = 0 from c1, if_pos rfl]
    exact h
  have g0 : ∀ k : Nat, k < 10 → k ≠ d → ¬ nI d = nI k := ne
  have le3 : (3 : Int32) ≤ nI d ↔ 3 ≤ d := by rw [show (3 : Int32) = nI 3 from rfl, n_le (by omega) (by omega)]
  have a15 : ck (inb (nI i) 6) (some (σ 4 (ix (nI i)))) = some (σ 4 i) := by rw [ck_t hin6, n_ix (by omega)]
  have cases : d = 0 ∨ d = 1 ∨ d = 2 ∨ d = 3 ∨ d = 4 ∨ d = 5 ∨ d = 6 ∨ d = 7 ∨ d = 8 ∨ d = 9 := by omega
  have lo : ∀ k, k < 3 → d = k → ∀ v, τ 708 (3 * i + k) = v → ∀ φ : Mm, (∀ c, c ≠ 703 → φ c = τ c) → (∀ k, k ≠ 0 → φ 703 k = τ 703 k) → ck (inb ((3 * nI i) + nI d) 15) (some (φ 708 (ix ((3 * nI i) + nI d)), φ)) = some (v, φ) := fun k hk hd v hv φ f1 f2 => by
    rw [show (3 : Int32) * nI i + nI d = nI (3 * i + d) by rw [show (3 : Int32) * nI i = nI (3 * i) from n_mul 3 i, n_add], ck_t ((n_in (by omega)).mpr (by omega)), n_ix (by omega), f1 708 (by omega), hd, hv]
  have hi : ∀ k : Nat, k ≤ 24 → ∀ v, τ 714 (k + i) = v → ∀ φ : Mm, (∀ c, c ≠ 703 → φ c = τ c) → (∀ k, k ≠ 0 → φ 703 k = τ 703 k) → ck (inb (nI k + nI i) 57) (some (φ 714 (ix (nI k + nI i)), φ)) = some (v, φ) := fun k hk v hv φ f1 f2 => by
    rw [n_add, ck_t ((n_in (by omega)).mpr (by omega)), n_ix (by omega), f1 714 (by omega), hv]
  rcases cases with rfl | rfl | rfl | rfl | rfl | rfl | rfl | rfl | rfl | rfl
  · refine key (σ 4 i) _ (cl _ ?_) (lo 0 (by omega) rfl _ ?_) (fun φ => ?_)
    · rw [if_pos (show nI 0 = (0 : Int32) from rfl), ck_t hin6, n_ix (by omega)]
    · rw [Nat.add_zero, hM.2.2.2.1, ← hM.1, hτ 4 (by omega)]
    · rw [if_neg (by rw [le3]; omega)]
  · refine key (σ 5 i) _ (cl _ ?_) (lo 1 (by omega) rfl _ ?_) (fun φ => ?_)
    · rw [if_neg (show ¬ nI 1 = (0 : Int32) by decide), if_pos (show nI 1 = (1 : Int32) from rfl), ck_t hin6, n_ix (by omega)]
    · rw [hM.2.2.2.2.1, ← hM.2.1, hτ 5 (by omega)]
    · rw [if_neg (by rw [le3]; omega)]
  · refine key (σ 6 i) _ (cl _ ?_) (lo 2 (by omega) rfl _ ?_) (fun φ => ?_)
    · rw [if_neg (show ¬ nI 2 = (0 : Int32) by decide), if_neg (show ¬ nI 2 = (1 : Int32) by decide), if_pos (show nI 2 = (2 : Int32) from rfl), ck_t hin6, n_ix (by omega)]
    · rw [hM.2.2.2.2.2, ← hM.2.2.1, hτ 6 (by omega)]
    · rw [if_neg (by rw [le3]; omega)]
  · refine key (σ 28 i) _ (cl _ ?_) (hi 0 (by omega) _ ?_) (fun φ => ?_)
    · rw [if_neg (show ¬ nI 3 = (0 : Int32) by decide), if_neg (show ¬ nI 3 = (1 : Int32) by decide), if_neg (show ¬ nI 3 = (2 : Int32) by decide), if_pos (show nI 3 = (3 : Int32) from rfl), ck_t hin6, n_ix (by omega)]
    · rw [Nat.zero_add, hR.1, hA 1 i (by omega) (by omega)]
    · rw [if_pos (by rw [le3]; omega), if_pos (show nI 3 = (3 : Int32) from rfl), show nI 0 + nI i = nI i by rw [n_add, Nat.zero_add]]
  · refine key (σ 29 i) _ (cl _ ?_) (hi 6 (by omega) _ ?_) (fun φ => ?_)
    · rw [if_neg (show ¬ nI 4 = (0 : Int32) by decide), if_neg (show ¬ nI 4 = (1 : Int32) by decide), if_neg (show ¬ nI 4 = (2 : Int32) by decide), if_neg (show ¬ nI 4 = (3 : Int32) by decide), if_pos (show nI 4 = (4 : Int32) from rfl), ck_t hin6, n_ix (by omega)]
    · rw [hR.2.1, hA 2 i (by omega) (by omega)]
    · rw [if_pos (by rw [le3]; omega), if_neg (show ¬ nI 4 = (3 : Int32) by decide), if_pos (show nI 4 = (4 : Int32) from rfl)]; rfl
  · refine key (σ 30 i) _ (cl _ ?_) (hi 12 (by omega) _ ?_) (fun φ => ?_)
    · rw [if_neg (show ¬ nI 5 = (0 : Int32) by decide), if_neg (show ¬ nI 5 = (1 : Int32) by decide), if_neg (show ¬ nI 5 = (2 : Int32) by decide), if_neg (show ¬ nI 5 = (3 : Int32) by decide), if_neg (show ¬ nI 5 = (4 : Int32) by decide), if_pos (show nI 5 = (5 : Int32) from rfl), ck_t hin6, n_ix (by omega)]
    · rw [hR.2.2.1, hA 3 i (by omega) (by omega)]
    · rw [if_pos (by rw [le3]; omega), if_neg (show ¬ nI 5 = (3 : Int32) by decide), if_neg (show ¬ nI 5 = (4 : Int32) by decide), if_pos (show nI 5 = (5 : Int32) from rfl)]; rfl
  · refine key (σ 33 i) (fun φ => ck (inb (nI i) 5) (some (φ 716 (ix (nI i)), φ))) (cl _ ?_) (fun φ f1 f2 => ?_) (fun φ => ?_)
    · rw [if_neg (show ¬ nI 6 = (0 : Int32) by decide), if_neg (show ¬ nI 6 = (1 : Int32) by decide), if_neg (show ¬ nI 6 = (2 : Int32) by decide), if_neg (show ¬ nI 6 = (3 : Int32) by decide), if_neg (show ¬ nI 6 = (4 : Int32) by decide), if_neg (show ¬ nI 6 = (5 : Int32) by decide), if_pos (show nI 6 = (6 : Int32) from rfl), ck_t hin6, n_ix (by omega)]
    · skip
      rw [ck_t ((n_in (by omega)).mpr (by omega)), n_ix (by omega), f1 716 (by omega), hI.2.2.2.2.1.2.2.1 i i1, hA 6 i (by omega) (by omega)]
    · rw [if_pos (by rw [le3]; omega), if_neg (show ¬ nI 6 = (3 : Int32) by decide), if_neg (show ¬ nI 6 = (4 : Int32) by decide), if_neg (show ¬ nI 6 = (5 : Int32) by decide), if_pos (show nI 6 = (6 : Int32) from rfl)]
  · have e3 : σ 27 3 = σ 703 32 := (hI0.2.2.2.2.1.1.1.1 3 (by omega)).trans hI0.2.2.2.2.1.2.1
    refine key (if zfX8_isHolding 27 (nI i) σ = 0 then 0 else 1) (fun φ => if (zfX12_has (φ 703 32) (nI i)) = 0 then (some (0, φ)) else (some (1, φ))) (cl _ ?_) (fun φ f1 f2 => ?_) (fun φ => ?_)
    · rw [if_neg (show ¬ nI 7 = (0 : Int32) by decide), if_neg (show ¬ nI 7 = (1 : Int32) by decide), if_neg (show ¬ nI 7 = (2 : Int32) by decide), if_neg (show ¬ nI 7 = (3 : Int32) by decide), if_neg (show ¬ nI 7 = (4 : Int32) by decide), if_neg (show ¬ nI 7 = (5 : Int32) by decide), if_neg (show ¬ nI 7 = (6 : Int32) by decide), if_pos (show nI 7 = (7 : Int32) from rfl)]
      split <;> rfl
    · skip
      rw [f2 32 (by omega), hτ 703 (by omega), ← has_h e3]
      split <;> rfl
    · rw [if_pos (by rw [le3]; omega), if_neg (show ¬ nI 7 = (3 : Int32) by decide), if_neg (show ¬ nI 7 = (4 : Int32) by decide), if_neg (show ¬ nI 7 = (5 : Int32) by decide), if_neg (show ¬ nI 7 = (6 : Int32) by decide), if_pos (show nI 7 = (7 : Int32) from rfl)]
  · refine key (σ 31 i) _ (cl _ ?_) (hi 18 (by omega) _ ?_) (fun φ => ?_)
    · rw [if_neg (show ¬ nI 8 = (0 : Int32) by decide), if_neg (show ¬ nI 8 = (1 : Int32) by decide), if_neg (show ¬ nI 8 = (2 : Int32) by decide), if_neg (show ¬ nI 8 = (3 : Int32) by decide), if_neg (show ¬ nI 8 = (4 : Int32) by decide), if_neg (show ¬ nI 8 = (5 : Int32) by decide), if_neg (show ¬ nI 8 = (6 : Int32) by decide), if_neg (show ¬ nI 8 = (7 : Int32) by decide), if_pos (show nI 8 = (8 : Int32) from rfl), ck_t hin6, n_ix (by omega)]
    · rw [hR.2.2.2.1, hA 4 i (by omega) (by omega)]
    · rw [if_pos (by rw [le3]; omega), if_neg (show ¬ nI 8 = (3 : Int32) by decide), if_neg (show ¬ nI 8 = (4 : Int32) by decide), if_neg (show ¬ nI 8 = (5 : Int32) by decide), if_neg (show ¬ nI 8 = (6 : Int32) by decide), if_neg (show ¬ nI 8 = (7 : Int32) by decide), if_pos (show nI 8 = (8 : Int32) from rfl)]; rfl
  · refine key (σ 32 i) _ (cl _ ?_) (hi 24 (by omega) _ ?_) (fun φ => ?_)
    · rw [if_neg (show ¬ nI 9 = (0 : Int32) by decide), if_neg (show ¬ nI 9 = (1 : Int32) by decide), if_neg (show ¬ nI 9 = (2 : Int32) by decide), if_neg (show ¬ nI 9 = (3 : Int32) by decide), if_neg (show ¬ nI 9 = (4 : Int32) by decide), if_neg (show ¬ nI 9 = (5 : Int32) by decide), if_neg (show ¬ nI 9 = (6 : Int32) by decide), if_neg (show ¬ nI 9 = (7 : Int32) by decide), if_neg (show ¬ nI 9 = (8 : Int32) by decide), ck_t hin6, n_ix (by omega)]
    · rw [hR.2.2.2.2, hA 5 i (by omega) (by omega)]
    · rw [if_pos (by rw [le3]; omega), if_neg (show ¬ nI 9 = (3 : Int32) by decide), if_neg (show ¬ nI 9 = (4 : Int32) by decide), if_neg (show ¬ nI 9 = (5 : Int32) by decide), if_neg (show ¬ nI 9 = (6 : Int32) by decide), if_neg (show ¬ nI 9 = (7 : Int32) by decide), if_neg (show ¬ nI 9 = (8 : Int32) by decide)]; rfl
