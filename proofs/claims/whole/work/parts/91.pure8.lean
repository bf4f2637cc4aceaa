/-! ===== see ===== -/
theorem q_price {x : Int32} : (zfX11_noPrice x = 0 → (¬ zfX12_isIn x.toInt64 0 20 = 0) ∧ sm 20 x) ∧ (¬ zfX11_noPrice x = 0 → zfX12_isIn x.toInt64 0 20 = 0) := by
  have hin : zfX12_isIn x.toInt64 0 20 = if x < 0 ∨ 20 < x then 0 else 1 := r_isIn (a := 0) (b := 20)
  unfold zfX11_noPrice
  simp only [lt_p]
  rw [hin]
  have e0 : x < 0 ↔ x.toInt < 0 := by rw [Int32.lt_iff_toInt_lt]; exact Iff.rfl
  have e1 : x ≤ 20 ↔ x.toInt ≤ 20 := by rw [Int32.le_iff_toInt_le]; exact Iff.rfl
  have e2 : (20 : Int32) < x ↔ 20 < x.toInt := by rw [Int32.lt_iff_toInt_lt]; exact Iff.rfl
  by_cases c1 : x < 0
  · rw [if_pos c1, if_pos (Or.inl c1)]
    exact ⟨fun h => absurd h (by decide), fun _ => rfl⟩
  · rw [if_neg c1]
    have h0 : ¬ x.toInt < 0 := fun h => c1 (e0.mpr h)
    by_cases c2 : x ≤ 20
    · have h2 := e1.mp c2
      rw [if_pos c2, if_neg (by rintro (h | h); exact c1 h; have := e2.mp h; omega)]
      exact ⟨fun _ => ⟨by decide, sm_int (by omega) (by omega) (by omega)⟩, fun h => absurd rfl h⟩
    · have h3 : ¬ x.toInt ≤ 20 := fun h => c2 (e1.mpr h)
      rw [if_neg c2, if_pos (Or.inr (e2.mpr (by omega)))]
      exact ⟨fun h => absurd h (by decide), fun _ => rfl⟩
theorem q_see {B : Nat} (x y : Int32) : Qy B (zfX11_see x y) (zfX12_see x y) := by
  rintro σ ⟨P, rc, s, hI⟩
  have hn := hI.n
  have hd := fun (τ : Mm) (h : τ 703 24 = nI (pn P)) => q_days2 (σ := σ) (τ := τ) (x := x) hn.1 hn.2.1 h
  have hp := q_price (x := y)
  obtain ⟨⟨n, n1, n2, n3, n4⟩, hA⟩ := id hI.2.2.2.2.2.2.2
  have rdy : ∀ υ : Mm, υ 703 24 = nI (pn P) → ¬ υ 703 24 = 0 → (zfX12_isReady x υ = 0 ↔ zfX12_areDays x = 0) := fun υ h h0 => by
    unfold zfX12_isReady
    simp only [lt_p]
    rw [h] at h0
    have : ¬ nI (pn P) ≤ 0 := by
      rw [show (0 : Int32) = nI 0 from rfl, n_le (by omega) (by omega)]
      intro h2
      exact h0 (by rw [show pn P = 0 by omega]; rfl)
    rw [h, if_neg this]
    by_cases c : zfX12_areDays x = 0
    · rw [if_pos c]; exact ⟨fun _ => c, fun _ => rfl⟩
    · rw [if_neg c]; exact ⟨fun h => absurd h (by decide), fun h => absurd h c⟩
  have bad : (¬ zfX11_noDays x σ = 0 ∨ ¬ zfX11_noPrice y = 0 ∨ n = 20) → Ok (zfX12_see x y σ) (fun b => b.1 = -1 ∧ Iv (B + 31) b.2) := fun h => by
    unfold zfX12_see
    refine ok_lg (fun υ e => ?_)
    refine ok_lg (fun J hJ => ?_)
    have fin : Ok (J υ) (fun b => b.1 = -1 ∧ Iv (B + 31) b.2) := by
      simp only [hJ]
      rw [ok_s]
      subst e
      exact ⟨rfl, Iv.up ⟨P, rc, s, hI.z0⟩ (by omega)⟩
    have h24 : υ 703 24 = nI (pn P) := by rw [e, zst_k (by omega)]; exact hn.2.2
    by_cases c : υ 703 24 = 0
    · rw [if_pos c]; exact fin
    · rw [if_neg c]
      by_cases c2 : υ 703 62 = 20
      · rw [if_pos c2]; exact fin
      · rw [if_neg c2]
        by_cases c3 : zfX12_areDays x = 0
        · rw [if_pos c3]; exact fin
        · rw [if_neg c3]
          have hd0 : zfX11_noDays x σ = 0 := Classical.byContradiction fun h2 => c3 ((rdy υ h24 c).mp ((hd υ h24).2 h2))
          have hn20 : ¬ n = 20 := fun h2 => c2 (by rw [e, zst_k (by omega), n3, h2]; rfl)
          have hpr : ¬ zfX11_noPrice y = 0 := (h.resolve_left (fun h => h hd0)).resolve_right hn20
          rw [if_pos (hp.2 hpr)]; exact fin
  unfold zfX11_see
  refine ok_lg (fun J hJ => ?_)
  have fin : (¬ zfX11_noDays x σ = 0 ∨ ¬ zfX11_noPrice y = 0 ∨ n = 20) → Ok (J σ) (fun a => Ok (zfX12_see x y a.2) (fun b => b.1 = a.1 ∧ Iv (B + 31) b.2)) := fun h => by
    simp only [hJ]
    rw [ok_s]
    exact bad h
  by_cases c0 : zfX11_noDays x σ = 0
  case neg => rw [if_neg c0]; exact fin (Or.inl c0)
  case pos =>
  rw [if_pos c0]
  by_cases c1 : zfX11_noPrice y = 0
  case neg => rw [if_neg c1]; exact fin (Or.inr (Or.inl c1))
  case pos =>
  rw [if_pos c1]
  unfold zfX2_add_695
  simp only [lt_p]
  rw [n2]
  have e20 : (20 : Int32) ≤ nI n ↔ 20 ≤ n := by rw [show (20 : Int32) = nI 20 from rfl, n_le (by omega) (by omega)]
  by_cases c2 : n = 20
  · rw [if_pos (e20.mpr (by omega)), ok_bd2, ok_s, if_pos rfl]
    exact fin (Or.inr (Or.inr c2))
  · have e20' : ¬ (20 : Int32) ≤ nI n := fun h => c2 (by have := e20.mp h; omega)
    have hin : inb (nI n) 20 := (n_in (by omega)).mpr (by omega)
    rw [if_neg e20', if_neg e20', if_pos (show nI n < 20 by rw [show (20 : Int32) = nI 20 from rfl, n_lt (by omega) (by omega)]; omega), ck_t hin, n_ix (by omega)]
    rw [zst_n (show (695 : Nat) ≠ 696 by omega), n2, ck_t hin, n_ix (by omega), zst_n (show (695 : Nat) ≠ 697 by omega), zst_n (show (695 : Nat) ≠ 696 by omega), n2, ck_t hin, n_ix (by omega)]
    rw [ok_bd2, ok_s]
    dsimp only
    rw [if_neg (by decide), ok_s]
    dsimp only
    generalize hτ : zst (zst (zst (zst σ 696 n x) 697 n y) 698 n 0) 695 3 (zst (zst (zst σ 696 n x) 697 n y) 698 n 0 695 3 + 1) = τ
    obtain ⟨hdr, h0, d, d1, d2, d3⟩ := (hd σ hn.2.2).1 c0
    have q : ∀ c, c ≠ 695 → c ≠ 696 → c ≠ 697 → c ≠ 698 → τ c = σ c := fun c a b e f => by rw [← hτ, zst_n a, zst_n f, zst_n e, zst_n b]
    have t3 : τ 695 3 = nI (n + 1) := by rw [← hτ, zst_v, zst_n (by omega), zst_n (by omega), zst_n (by omega), n2]; exact n_add n 1
    have t6 : ∀ k, τ 696 k = if k = n then x else σ 696 k := fun k => by
      rw [← hτ, zst_n (by omega), zst_n (by omega), zst_n (by omega)]
      by_cases c : k = n
      · rw [if_pos c, c, zst_v]
      · rw [if_neg c, zst_k c]
    have t7 : ∀ k, τ 697 k = if k = n then y else σ 697 k := fun k => by
      rw [← hτ, zst_n (by omega), zst_n (by omega)]
      by_cases c : k = n
      · rw [if_pos c, c, zst_v]
      · rw [if_neg c, zst_k c, zst_n (by omega)]
    unfold zfX12_see
    refine ok_lg (fun υ e => ?_)
    refine ok_lg (fun J2 hJ2 => ?_)
    have u7 : ∀ k, k ≠ 0 → υ 703 k = σ 703 k := fun k hk => by rw [e, zst_k hk, q 703 (by omega) (by omega) (by omega) (by omega)]
    have h24 : υ 703 24 = nI (pn P) := by rw [u7 24 (by omega)]; exact hn.2.2
    have hnz : ¬ υ 703 24 = 0 := by rw [h24, show (0 : Int32) = nI 0 from rfl, n_eq (by omega) (by omega)]; omega
    have h62 : υ 703 62 = nI n := by rw [u7 62 (by omega)]; exact n3
    rw [if_neg hnz, h62, if_neg (show ¬ nI n = 20 by rw [show (20 : Int32) = nI 20 from rfl, n_eq (by omega) (by omega)]; exact c2), if_neg (fun h => ((hd υ h24).1 c0).1 ((rdy υ h24 hnz).mpr h)), if_neg (hp.1 c1).1, ck_t hin]
    refine ok_lg (fun φ1 k1 => ?_)
    have h1 : φ1 703 62 = nI n := by rw [k1, zst_n (by omega)]; exact h62
    rw [h1, ck_t hin]
    refine ok_lg (fun φ2 k2 => ?_)
    refine ok_lg (fun φ3 k3 => ?_)
    rw [ok_s]
    rw [n_ix (by omega)] at k1 k2
    have h2 : φ2 703 62 = nI n := by rw [k2, zst_n (by omega)]; exact h1
    have v62 : φ3 703 62 = nI (n + 1) := by rw [k3, zst_v, h2]; exact n_add n 1
    have w : ∀ c, c ≠ 703 → c ≠ 731 → c ≠ 732 → φ3 c = τ c := fun c a b d => by rw [k3, zst_n a, k2, zst_n d, k1, zst_n b, e, zst_n a]
    have w7 : ∀ k, k ≠ 0 → k ≠ 62 → φ3 703 k = σ 703 k := fun k a b => by rw [k3, zst_k b, k2, zst_n (by omega), k1, zst_n (by omega)]; exact u7 k a
    have x1 : ∀ k, φ3 731 k = if k = n then x else σ 731 k := fun k => by
      rw [k3, zst_n (by omega), k2, zst_n (by omega), k1]
      by_cases c : k = n
      · rw [if_pos c, c, zst_v]
      · rw [if_neg c, zst_k c, e, zst_n (by omega), q 731 (by omega) (by omega) (by omega) (by omega)]
    have x2 : ∀ k, φ3 732 k = if k = n then y else σ 732 k := fun k => by
      rw [k3, zst_n (by omega), k2]
      by_cases c : k = n
      · rw [if_pos c, c, zst_v]
      · rw [if_neg c, zst_k c, k1, zst_n (by omega), e, zst_n (by omega), q 732 (by omega) (by omega) (by omega) (by omega)]
    refine ⟨by dsimp only; rw [v62, t3], ?_⟩
    show Iv (B + 31) φ3
    refine Iv.up ⟨P, rc, s, hI.chgN (fun c hc => by rw [w c (by omega) (by omega) (by omega), q c (by omega) (by omega) (by omega) (by omega)]) (fun k hk => w7 k (by omega) (by omega)) ⟨⟨n + 1, by omega, by rw [w 695 (by omega) (by omega) (by omega)]; exact t3, v62, fun k hk => ?_⟩, ?_⟩⟩ (by omega)
    · rw [w 696 (by omega) (by omega) (by omega), w 697 (by omega) (by omega) (by omega), t6, t7, x1, x2]
      by_cases c : k = n
      · rw [if_pos c, if_pos c, if_pos c, if_pos c]
        exact ⟨by rw [d3]; exact ⟨sm_n d2 (by omega), by rw [n_ix (by omega)]; omega⟩, (hp.1 c1).2, rfl, rfl⟩
      · rw [if_neg c, if_neg c, if_neg c, if_neg c]; exact n4 k (by omega)
    · obtain ⟨a, a1, a2, a3, a4⟩ := hA
      refine ⟨a, a1, ?_, ?_, fun k hk => ?_⟩
      · rw [w 699 (by omega) (by omega) (by omega), q 699 (by omega) (by omega) (by omega) (by omega)]; exact a2
      · rw [w7 66 (by omega) (by omega)]; exact a3
      · rw [w 700 (by omega) (by omega) (by omega), w 701 (by omega) (by omega) (by omega), w 702 (by omega) (by omega) (by omega), w 733 (by omega) (by omega) (by omega), w 734 (by omega) (by omega) (by omega), w 735 (by omega) (by omega) (by omega), q 700 (by omega) (by omega) (by omega) (by omega), q 701 (by omega) (by omega) (by omega) (by omega), q 702 (by omega) (by omega) (by omega) (by omega), q 733 (by omega) (by omega) (by omega) (by omega), q 734 (by omega) (by omega) (by omega) (by omega), q 735 (by omega) (by omega) (by omega) (by omega)]
        exact a4 k hk
