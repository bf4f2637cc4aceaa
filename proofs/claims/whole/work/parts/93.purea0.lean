/-! ===== ask ===== -/
theorem q_day29 {x : Int32} : ((¬ x < 0 ∧ ¬ 30 ≤ x) → (¬ zfX12_isIn x.toInt64 0 29 = 0) ∧ sm 29 x) ∧ (¬ (¬ x < 0 ∧ ¬ 30 ≤ x) → zfX12_isIn x.toInt64 0 29 = 0) := by
  have hin : zfX12_isIn x.toInt64 0 29 = if x < 0 ∨ 29 < x then 0 else 1 := r_isIn (a := 0) (b := 29)
  rw [hin]
  have e0 : x < 0 ↔ x.toInt < 0 := by rw [Int32.lt_iff_toInt_lt]; exact Iff.rfl
  have e1 : 30 ≤ x ↔ 30 ≤ x.toInt := by rw [Int32.le_iff_toInt_le]; exact Iff.rfl
  have e2 : (29 : Int32) < x ↔ 29 < x.toInt := by rw [Int32.lt_iff_toInt_lt]; exact Iff.rfl
  refine ⟨fun h => ?_, fun h => ?_⟩
  · rw [e0, e1] at h
    exact ⟨by rw [if_neg (by rw [e0, e2]; omega)]; decide, sm_int (by omega) (by omega) (by omega)⟩
  · rw [e0, e1] at h
    rw [if_pos (by rw [e0, e2]; omega)]
theorem q_ask {B : Nat} (x y z : Int32) : Qy B (zfX11_ask x y z) (zfX12_ask x y z) := by
  rintro σ ⟨P, rc, s, hI⟩
  have hn := hI.n
  have hs := fun (τ : Mm) (h : τ 703 24 = nI (pn P)) => q_sel (σ := σ) (τ := τ) (x := x) hn.1 hn.2.1 h
  have hp := q_price (x := z)
  have hy := q_day29 (x := y)
  obtain ⟨hA, n, n1, n2, n3, n4⟩ := id hI.2.2.2.2.2.2.2
  have bad : (zfX11_isSeller x σ = 0 ∨ ¬ (¬ y < 0 ∧ ¬ 30 ≤ y) ∨ ¬ zfX11_noPrice z = 0 ∨ n = 60) → Ok (zfX12_ask x y z σ) (fun b => b.1 = -1 ∧ Iv (B + 31) b.2) := fun h => by
    unfold zfX12_ask
    refine ok_lg (fun υ e => ?_)
    refine ok_lg (fun J hJ => ?_)
    have fin : Ok (J υ) (fun b => b.1 = -1 ∧ Iv (B + 31) b.2) := by
      simp only [hJ]
      rw [ok_s]
      subst e
      exact ⟨rfl, Iv.up ⟨P, rc, s, hI.z0⟩ (by omega)⟩
    have h24 : υ 703 24 = nI (pn P) := by rw [e, zst_k (by omega)]; exact hn.2.2
    by_cases c1 : υ 703 66 = 60
    · rw [if_pos c1]; exact fin
    · rw [if_neg c1]
      have hn60 : ¬ n = 60 := fun h2 => c1 (by rw [e, zst_k (by omega), n3, h2]; rfl)
      by_cases c2 : zfX12_isSeller x υ = 0
      · rw [if_pos c2]; exact fin
      · rw [if_neg c2]
        have hc : ¬ zfX11_isSeller x σ = 0 := fun h => c2 ((hs υ h24).2 h)
        by_cases c3 : zfX12_isIn y.toInt64 0 29 = 0
        · rw [if_pos c3]; exact fin
        · rw [if_neg c3]
          have hc3 : ¬ y < 0 ∧ ¬ 30 ≤ y := Classical.byContradiction fun h => c3 (hy.2 h)
          have hpr : ¬ zfX11_noPrice z = 0 := (((h.resolve_left hc).resolve_left (fun h => h hc3))).resolve_right hn60
          rw [if_pos (hp.2 hpr)]; exact fin
  unfold zfX11_ask
  refine ok_lg (fun J hJ => ?_)
  have fin : (zfX11_isSeller x σ = 0 ∨ ¬ (¬ y < 0 ∧ ¬ 30 ≤ y) ∨ ¬ zfX11_noPrice z = 0 ∨ n = 60) → Ok (J σ) (fun a => Ok (zfX12_ask x y z a.2) (fun b => b.1 = a.1 ∧ Iv (B + 31) b.2)) := fun h => by
    simp only [hJ]
    rw [ok_s]
    exact bad h
  by_cases c0 : zfX11_isSeller x σ = 0
  case pos => rw [if_pos c0]; exact fin (Or.inl c0)
  case neg =>
  rw [if_neg c0]
  by_cases d1 : y < 0
  case pos => rw [if_pos d1]; exact fin (Or.inr (Or.inl (fun h => h.1 d1)))
  case neg =>
  rw [if_neg d1]
  by_cases d2 : 30 ≤ y
  case pos => rw [if_pos d2]; exact fin (Or.inr (Or.inl (fun h => h.2 d2)))
  case neg =>
  rw [if_neg d2]
  by_cases c1 : zfX11_noPrice z = 0
  case neg => rw [if_neg c1]; exact fin (Or.inr (Or.inr (Or.inl c1)))
  case pos =>
  rw [if_pos c1]
  unfold zfX2_add_699
  simp only [lt_p]
  rw [n2]
  have e60 : (60 : Int32) ≤ nI n ↔ 60 ≤ n := by rw [show (60 : Int32) = nI 60 from rfl, n_le (by omega) (by omega)]
  by_cases c2 : n = 60
  · rw [if_pos (e60.mpr (by omega)), ok_bd2, ok_s, if_pos rfl]
    exact fin (Or.inr (Or.inr (Or.inr c2)))
  · have e60' : ¬ (60 : Int32) ≤ nI n := fun h => c2 (by have := e60.mp h; omega)
    have hin : inb (nI n) 60 := (n_in (by omega)).mpr (by omega)
    rw [if_neg e60', if_neg e60', if_pos (show nI n < 60 by rw [show (60 : Int32) = nI 60 from rfl, n_lt (by omega) (by omega)]; omega), ck_t hin, n_ix (by omega)]
    rw [zst_n (show (699 : Nat) ≠ 700 by omega), n2, ck_t hin, n_ix (by omega), zst_n (show (699 : Nat) ≠ 701 by omega), zst_n (show (699 : Nat) ≠ 700 by omega), n2, ck_t hin, n_ix (by omega)]
    rw [ok_bd2, ok_s]
    dsimp only
    rw [if_neg (by decide), ok_s]
    dsimp only
    generalize hτ : zst (zst (zst (zst σ 700 n x) 701 n y) 702 n z) 699 3 (zst (zst (zst σ 700 n x) 701 n y) 702 n z 699 3 + 1) = τ
    obtain ⟨_, i, i1, i2⟩ := (hs σ hn.2.2).1 c0
    have q : ∀ c, c ≠ 699 → c ≠ 700 → c ≠ 701 → c ≠ 702 → τ c = σ c := fun c a b e f => by rw [← hτ, zst_n a, zst_n f, zst_n e, zst_n b]
    have t3 : τ 699 3 = nI (n + 1) := by rw [← hτ, zst_v, zst_n (by omega), zst_n (by omega), zst_n (by omega), n2]; exact n_add n 1
    have t6 : ∀ k, τ 700 k = if k = n then x else σ 700 k := fun k => by
      rw [← hτ, zst_n (by omega), zst_n (by omega), zst_n (by omega)]
      by_cases c : k = n
      · rw [if_pos c, c, zst_v]
      · rw [if_neg c, zst_k c]
    have t7 : ∀ k, τ 701 k = if k = n then y else σ 701 k := fun k => by
      rw [← hτ, zst_n (by omega), zst_n (by omega)]
      by_cases c : k = n
      · rw [if_pos c, c, zst_v]
      · rw [if_neg c, zst_k c, zst_n (by omega)]
    have t8 : ∀ k, τ 702 k = if k = n then z else σ 702 k := fun k => by
      rw [← hτ, zst_n (by omega)]
      by_cases c : k = n
      · rw [if_pos c, c, zst_v]
      · rw [if_neg c, zst_k c, zst_n (by omega), zst_n (by omega)]
    unfold zfX12_ask
    refine ok_lg (fun υ e => ?_)
    refine ok_lg (fun J2 hJ2 => ?_)
    have u7 : ∀ k, k ≠ 0 → υ 703 k = σ 703 k := fun k hk => by rw [e, zst_k hk, q 703 (by omega) (by omega) (by omega) (by omega)]
    have h24 : υ 703 24 = nI (pn P) := by rw [u7 24 (by omega)]; exact hn.2.2
    have h66 : υ 703 66 = nI n := by rw [u7 66 (by omega)]; exact n3
    rw [h66, if_neg (show ¬ nI n = 60 by rw [show (60 : Int32) = nI 60 from rfl, n_eq (by omega) (by omega)]; exact c2), if_neg ((hs υ h24).1 c0).1, if_neg (hy.1 ⟨d1, d2⟩).1, if_neg (hp.1 c1).1, ck_t hin]
    refine ok_lg (fun φ1 k1 => ?_)
    have h1 : φ1 703 66 = nI n := by rw [k1, zst_n (by omega)]; exact h66
    rw [h1, ck_t hin]
    refine ok_lg (fun φ2 k2 => ?_)
    have h2 : φ2 703 66 = nI n := by rw [k2, zst_n (by omega)]; exact h1
    rw [h2, ck_t hin]
    refine ok_lg (fun φ3 k3 => ?_)
    refine ok_lg (fun φ k4 => ?_)
    rw [ok_s]
    rw [n_ix (by omega)] at k1 k2 k3
    have h3 : φ3 703 66 = nI n := by rw [k3, zst_n (by omega)]; exact h2
    have v66 : φ 703 66 = nI (n + 1) := by rw [k4, zst_v, h3]; exact n_add n 1
    have w : ∀ c, c ≠ 703 → c ≠ 733 → c ≠ 734 → c ≠ 735 → φ c = τ c := fun c a b d f => by rw [k4, zst_n a, k3, zst_n f, k2, zst_n d, k1, zst_n b, e, zst_n a]
    have w7 : ∀ k, k ≠ 0 → k ≠ 66 → φ 703 k = σ 703 k := fun k a b => by rw [k4, zst_k b, k3, zst_n (by omega), k2, zst_n (by omega), k1, zst_n (by omega)]; exact u7 k a
    have x1 : ∀ k, φ 733 k = if k = n then x else σ 733 k := fun k => by
      rw [k4, zst_n (by omega), k3, zst_n (by omega), k2, zst_n (by omega), k1]
      by_cases c : k = n
      · rw [if_pos c, c, zst_v]
      · rw [if_neg c, zst_k c, e, zst_n (by omega), q 733 (by omega) (by omega) (by omega) (by omega)]
    have x2 : ∀ k, φ 734 k = if k = n then y else σ 734 k := fun k => by
      rw [k4, zst_n (by omega), k3, zst_n (by omega), k2]
      by_cases c : k = n
      · rw [if_pos c, c, zst_v]
      · rw [if_neg c, zst_k c, k1, zst_n (by omega), e, zst_n (by omega), q 734 (by omega) (by omega) (by omega) (by omega)]
    have x3 : ∀ k, φ 735 k = if k = n then z else σ 735 k := fun k => by
      rw [k4, zst_n (by omega), k3]
      by_cases c : k = n
      · rw [if_pos c, c, zst_v]
      · rw [if_neg c, zst_k c, k2, zst_n (by omega), k1, zst_n (by omega), e, zst_n (by omega), q 735 (by omega) (by omega) (by omega) (by omega)]
    refine ⟨by dsimp only; rw [v66, t3], ?_⟩
    show Iv (B + 31) φ
    refine Iv.up ⟨P, rc, s, hI.chgN (fun c hc => by rw [w c (by omega) (by omega) (by omega) (by omega), q c (by omega) (by omega) (by omega) (by omega)]) (fun k hk => w7 k (by omega) (by omega)) ⟨?_, ⟨n + 1, by omega, by rw [w 699 (by omega) (by omega) (by omega) (by omega)]; exact t3, v66, fun k hk => ?_⟩⟩⟩ (by omega)
    · obtain ⟨a, a1, a2, a3, a4⟩ := hA
      refine ⟨a, a1, ?_, ?_, fun k hk => ?_⟩
      · rw [w 695 (by omega) (by omega) (by omega) (by omega), q 695 (by omega) (by omega) (by omega) (by omega)]; exact a2
      · rw [w7 62 (by omega) (by omega)]; exact a3
      · rw [w 696 (by omega) (by omega) (by omega) (by omega), w 697 (by omega) (by omega) (by omega) (by omega), w 731 (by omega) (by omega) (by omega) (by omega), w 732 (by omega) (by omega) (by omega) (by omega), q 696 (by omega) (by omega) (by omega) (by omega), q 697 (by omega) (by omega) (by omega) (by omega), q 731 (by omega) (by omega) (by omega) (by omega), q 732 (by omega) (by omega) (by omega) (by omega)]
        exact a4 k hk
    · rw [w 700 (by omega) (by omega) (by omega) (by omega), w 701 (by omega) (by omega) (by omega) (by omega), w 702 (by omega) (by omega) (by omega) (by omega), t6, t7, t8, x1, x2, x3]
      by_cases c : k = n
      · simp only [if_pos c]
        exact ⟨by rw [i2]; exact sm_n (by omega) (by omega), by rw [i2, n_ix (by omega)]; exact i1, (hy.1 ⟨d1, d2⟩).2, (hp.1 c1).2, by trivial, by trivial, by trivial⟩
      · simp only [if_neg c]; exact n4 k (by omega)
