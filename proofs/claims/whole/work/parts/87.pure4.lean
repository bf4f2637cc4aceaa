/-! ===== rule ===== -/
theorem q_sel {σ τ : Mm} {n : Nat} {x : Int32} (hn : n ≤ 5) (h1 : σ 3 0 = nI n) (h2 : τ 703 24 = nI n) :
    (¬ zfX11_isSeller x σ = 0 → (¬ zfX12_isSeller x τ = 0) ∧ ∃ i, i < n ∧ x = nI i) ∧ (zfX11_isSeller x σ = 0 → zfX12_isSeller x τ = 0) := by
  unfold zfX11_isSeller zfX12_isSeller
  simp only [lt_p]
  rw [h1, h2]
  have e0 : x < 0 ↔ x.toInt < 0 := by rw [Int32.lt_iff_toInt_lt]; exact Iff.rfl
  have em : nI n ≤ x ↔ (n : Int) ≤ x.toInt := by rw [Int32.le_iff_toInt_le, n_ti (by omega)]
  by_cases c1 : x < 0
  · rw [if_pos c1]
    exact ⟨fun h => absurd rfl h, fun _ => rfl⟩
  · rw [if_neg c1]
    by_cases c2 : nI n ≤ x
    · rw [if_pos c2]
      exact ⟨fun h => absurd rfl h, fun _ => rfl⟩
    · rw [if_neg c2]
      have h0 : ¬ x.toInt < 0 := fun h => c1 (e0.mpr h)
      have h3 : ¬ (n : Int) ≤ x.toInt := fun h => c2 (em.mpr h)
      refine ⟨fun _ => ⟨by decide, ix x, ?_, n_of (by omega)⟩, fun h => absurd h (by decide)⟩
      unfold ix Int32.toNatClampNeg; omega
theorem q_rule {B : Nat} (x y : Int32) : Qy B (zfX11_rule x y) (zfX12_rule x y) := by
  rintro σ ⟨P, rc, s, hI⟩
  have hrc := hI.2.2.2.1.2.2.1
  have hr1 := hI.2.2.2.1.1
  have hr2 := hI.2.2.2.1.2.1
  have hn := hI.n.1
  have hs := fun (τ : Mm) (h : τ 703 24 = nI (pn P)) => q_sel (σ := σ) (τ := τ) (x := x) hn hI.n.2.1 h
  have em1 : y < -1 ↔ y.toInt < -1 := by rw [Int32.lt_iff_toInt_lt]; exact Iff.rfl
  have erc : y < nI rc ↔ y.toInt < rc := by rw [Int32.lt_iff_toInt_lt, n_ti (by omega)]
  have ey1 : y = -1 ↔ y.toInt = -1 := by rw [← Int32.toInt_inj]; exact Iff.rfl
  have ti : (nI rc - 1).toInt = (rc : Int) - 1 := by
    have e : ((2 ^ 32 : Nat) : Int) = 4294967296 := rfl
    have e1 : (1 : Int32).toInt = 1 := rfl
    rw [Int32.toInt_sub, n_ti (by omega), e1, Int.bmod_eq_of_le (by omega) (by omega)]
  have hin : zfX12_isIn y.toInt64 0 (Int32.toInt64 (nI rc - 1)) = if y < 0 ∨ nI rc - 1 < y then 0 else 1 := r_isIn (a := 0) (b := nI rc - 1)
  have e0 : y < 0 ↔ y.toInt < 0 := by rw [Int32.lt_iff_toInt_lt]; exact Iff.rfl
  have e2 : nI rc - 1 < y ↔ (rc : Int) - 1 < y.toInt := by rw [Int32.lt_iff_toInt_lt, ti]
  have bad : (zfX11_isSeller x σ = 0 ∨ y < -1 ∨ ¬ y < nI rc) → Ok (zfX12_rule x y σ) (fun b => b.1 = 0 ∧ Iv (B + 31) b.2) := fun h => by
    unfold zfX12_rule
    refine ok_lg (fun υ e => ?_)
    refine ok_lg (fun J hJ => ?_)
    have fin : Ok (J υ) (fun b => b.1 = 0 ∧ Iv (B + 31) b.2) := by
      simp only [hJ]
      rw [ok_s]
      subst e
      exact ⟨rfl, Iv.up ⟨P, rc, s, hI.z0⟩ (by omega)⟩
    by_cases c : zfX12_isSeller x υ = 0
    · rw [if_pos c]; exact fin
    · rw [if_neg c]
      have hc : ¬ zfX11_isSeller x σ = 0 := fun h => c ((hs υ (by rw [e, zst_k (by omega)]; exact hI.n.2.2)).2 h)
      have hy := h.resolve_left hc
      refine ok_lg (fun J2 hJ2 => ?_)
      have hy1 : ¬ y = -1 := fun e => by
        have := ey1.mp e
        rcases hy with h | h
        · have := em1.mp h; omega
        · exact h (erc.mpr (by omega))
      have hyo : y < 0 ∨ nI rc - 1 < y := by
        rcases hy with h | h
        · exact Or.inl (e0.mpr (by have := em1.mp h; omega))
        · right
          have : ¬ y.toInt < rc := fun h2 => h (erc.mpr h2)
          exact e2.mpr (by omega)
      rw [if_neg hy1, show υ 703 7 = nI rc by rw [e, zst_k (by omega)]; exact hr2, hin, if_pos hyo, if_pos rfl]
      exact fin
  unfold zfX11_rule
  refine ok_lg (fun J hJ => ?_)
  have fin : (zfX11_isSeller x σ = 0 ∨ y < -1 ∨ ¬ y < nI rc) → Ok (J σ) (fun a => Ok (zfX12_rule x y a.2) (fun b => b.1 = a.1 ∧ Iv (B + 31) b.2)) := fun h => by
    simp only [hJ]
    rw [ok_s]
    exact bad h
  by_cases c0 : zfX11_isSeller x σ = 0
  case pos => rw [if_pos c0]; exact fin (Or.inl c0)
  case neg =>
  rw [if_neg c0]
  by_cases c1 : y < -1
  case pos => rw [if_pos c1]; exact fin (Or.inr (Or.inl c1))
  case neg =>
  rw [if_neg c1, hr1]
  by_cases c2 : y < nI rc
  case neg => rw [if_neg c2]; exact fin (Or.inr (Or.inr c2))
  case pos =>
  obtain ⟨_, i, i1, i2⟩ := (hs σ hI.n.2.2).1 c0
  subst i2
  rw [if_pos c2, ck_t ((n_in (by omega)).mpr (by omega))]
  refine ok_lg (fun τ eτ => ?_)
  rw [ok_s]
  dsimp only
  rw [n_ix (by omega)] at eτ
  unfold zfX12_rule
  refine ok_lg (fun υ e => ?_)
  refine ok_lg (fun J2 hJ2 => ?_)
  have h24 : υ 703 24 = nI (pn P) := by rw [e, zst_k (by omega), eτ, zst_n (by omega)]; exact hI.n.2.2
  rw [if_neg ((hs υ h24).1 c0).1]
  refine ok_lg (fun J3 hJ3 => ?_)
  have hy1 : ¬ y.toInt < -1 := fun h => c1 (em1.mpr h)
  have hy2 := erc.mp c2
  have go : Ok (J3 υ) (fun b => b.1 = 1 ∧ Iv (B + 31) b.2) := by
    simp only [hJ3]
    rw [ck_t ((n_in (by omega)).mpr (by omega))]
    refine ok_lg (fun φ eφ => ?_)
    rw [n_ix (by omega)] at eφ
    rw [ok_s]
    have q : ∀ c, c ≠ 33 → c ≠ 703 → c ≠ 716 → φ c = σ c := fun c a b d => by rw [eφ, zst_n d, e, zst_n b, eτ, zst_n a]
    have q7 : ∀ k, k ≠ 0 → φ 703 k = σ 703 k := fun k a => by rw [eφ, zst_n (by omega), e, zst_k a, eτ, zst_n (by omega)]
    have v33 : ∀ k, φ 33 k = if k = i then y else σ 33 k := fun k => by
      rw [eφ, zst_n (by omega), e, zst_n (by omega), eτ]
      by_cases c : k = i
      · rw [if_pos c, c, zst_v]
      · rw [if_neg c, zst_k c]
    have v16 : ∀ k, φ 716 k = if k = i then y else σ 716 k := fun k => by
      rw [eφ]
      by_cases c : k = i
      · rw [if_pos c, c, zst_v]
      · rw [if_neg c, zst_k c, e, zst_n (by omega), eτ, zst_n (by omega)]
    obtain ⟨⟨⟨a1, a2, a3, a4, a5⟩, s2, s3⟩, s4, s5, s6, s7⟩ := hI.2.2.2.2.1
    rw [wr_self] at s2
    refine ⟨rfl, ?_⟩
    show Iv (B + 31) φ
    have w6 : ∀ k, zst s 6 i y 6 k = if k = i then y else s 6 k := fun k => by
      by_cases c : k = i
      · rw [if_pos c, c, zst_v]
      · rw [if_neg c, zst_k c]
    have wr' : ∀ j, j ≠ 6 → zst s 6 i y j = s j := fun j hj => zst_n hj
    refine Iv.up ⟨P, rc, zst s 6 i y, hI.chg (fun c hc => q c (by omega) (by omega) (by omega)) ⟨by rw [q 0 (by omega) (by omega) (by omega)], by rw [q 0 (by omega) (by omega) (by omega)]⟩ (fun k hk => q7 k (by omega)) (hI.1.of (by rw [q 1 (by omega) (by omega) (by omega)]) (q 2 (by omega) (by omega) (by omega)) (q7 6 (by omega)) (q 704 (by omega) (by omega) (by omega))) ?_ ⟨by rw [q 0 (by omega) (by omega) (by omega), q7 33 (by omega)]; exact hI.2.2.2.2.2.1.1, by rw [q 0 (by omega) (by omega) (by omega)]; exact hI.2.2.2.2.2.1.2⟩⟩ (by omega)
    refine ⟨⟨⟨fun k hk => ?_, ?_, ?_, fun j k hj hk => ?_, fun k hk => ?_⟩, ?_, ?_, ?_, s3.2.2.1, s3.2.2.2⟩, ?_, fun k hk => ?_, ?_, ?_⟩
    · rw [q 27 (by omega) (by omega) (by omega)]; exact a1 k hk
    · rw [q 27 (by omega) (by omega) (by omega)]; exact a2
    · rw [q 27 (by omega) (by omega) (by omega)]; exact a3
    · by_cases c6 : j = 6
      · subst c6
        rw [v33, w6]
        by_cases c : k = i
        · rw [if_pos c, if_pos c]
        · rw [if_neg c, if_neg c]; exact a4 6 k hj hk
      · rw [q _ (by omega) (by omega) (by omega), wr' j c6]; exact a4 j k hj hk
    · rw [q _ (by omega) (by omega) (by omega)]; exact a5 k hk
    · rw [wr_self]
      exact RRs.fr14 (s := zst s 6 i y) (σ := σ) s2 (q 714 (by omega) (by omega) (by omega))
    · exact s3.1
    · obtain ⟨t1, t2, t3⟩ := s3.2.1
      refine ⟨t1, t2, fun k hk => ?_⟩
      rw [w6]
      by_cases c : k = i
      · rw [if_pos c]
        by_cases cy : y.toInt = -1
        · exact Or.inl (ey1.mpr cy)
        · refine Or.inr ⟨n_of (by omega), ?_⟩
          unfold ix Int32.toNatClampNeg; omega
      · rw [if_neg c]; exact t3 k hk
    · rw [q7 32 (by omega)]; exact s4
    · rw [v16, w6]
      by_cases c : k = i
      · rw [if_pos c, if_pos c]
      · rw [if_neg c, if_neg c]; exact s5 k hk
    · rw [q7 34 (by omega)]; exact s6
    · rw [q7 234 (by omega)]; exact s7
  by_cases cy : y = -1
  · rw [if_pos cy]; exact go
  · rw [if_neg cy, show υ 703 7 = nI rc by rw [e, zst_k (by omega), eτ, zst_n (by omega)]; exact hr2, hin, if_neg (show ¬ (y < 0 ∨ nI rc - 1 < y) by
      have : ¬ y.toInt = -1 := fun h => cy (ey1.mpr h)
      rintro (h | h)
      · have := e0.mp h; omega
      · have := e2.mp h; omega), if_neg (by decide)]
    exact go
