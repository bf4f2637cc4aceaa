/-! ===== month answers alike ===== -/
theorem r_m51 {τ : Mm} {K : Mm → Option (Int32 × Mm)} {Q : Int32 × Mm → Prop} (hK : ∀ φ, (∀ k, k < 5 → φ 717 k = -1) → (∀ c, c ≠ 717 → φ c = τ c) → Ok (K φ) Q) : Ok (zfX12_month_L51 K NF 0 τ) Q := by
  refine ok_up (F := fun fu (x : Int32 × Mm) => zfX12_month_L51 K fu x.1 x.2) 5 (fun j x => x.1 = nI j ∧ (∀ k, k < j → x.2 717 k = -1) ∧ ∀ c, c ≠ 717 → x.2 c = τ c) ?_ ?_ 0 NF (0, τ) ⟨rfl, fun k hk => absurd hk (Nat.not_lt_zero k), fun _ _ => rfl⟩ (by omega) (by unfold NF; omega)
  · rintro j fu ⟨y, φ⟩ hj ⟨hy, h1, h2⟩ hk
    have hy : y = nI j := hy
    subst hy
    have h1 : ∀ k, k < j → φ 717 k = -1 := h1
    have h2 : ∀ c, c ≠ 717 → φ c = τ c := h2
    show Ok (zfX12_month_L51 K (fu + 1) (nI j) φ) Q
    unfold zfX12_month_L51
    rw [if_neg (by rw [show (5 : Int32) = nI 5 from rfl, n_le (by omega) (by omega)]; omega), ck_t ((n_in (by omega)).mpr (by omega)), n_ix (by omega)]
    refine ok_lg (fun φ2 e2 => ?_)
    refine ok_lg (fun y2 ey => ?_)
    rw [show nI j + 1 = nI (j + 1) from n_add _ 1] at ey
    refine hk (y2, φ2) ⟨ey, fun k hk2 => ?_, fun c hc => by dsimp only; rw [e2, zst_n hc]; exact h2 c hc⟩
    dsimp only
    rw [e2]
    by_cases e : k = j
    · rw [e, zst_v]
    · rw [zst_k e]; exact h1 k (by omega)
  · rintro fu ⟨y, φ⟩ ⟨hy, h1, h2⟩
    have hy : y = nI 5 := hy
    subst hy
    show Ok (zfX12_month_L51 K (fu + 1) (nI 5) φ) Q
    unfold zfX12_month_L51
    rw [if_pos (by decide)]
    exact hK φ h1 h2
theorem r_m74 {τ : Mm} {N d : Nat} {aw ad av : Nat → Int32} {K : Mm → Option (Int32 × Mm)} {Q : Int32 × Mm → Prop} (hN : N ≤ 60) (h66 : τ 703 66 = nI N) (hA : ∀ k, k < N → τ 733 k = aw k ∧ τ 734 k = ad k ∧ τ 735 k = av k ∧ sm 5 (aw k) ∧ ix (aw k) < 5) (h0 : ∀ k, k < 5 → τ 717 k = -1)
    (hK : ∀ φ, (∀ k, k < 5 → φ 717 k = tf aw ad av (nI d) N k) → (∀ c, c ≠ 717 → φ c = τ c) → Ok (K φ) Q) : Ok (zfX12_month_L74 K (nI d) NF 0 τ) Q := by
  refine ok_up (F := fun fu (x : Int32 × Mm) => zfX12_month_L74 K (nI d) fu x.1 x.2) N (fun j x => x.1 = nI j ∧ (∀ k, k < 5 → x.2 717 k = tf aw ad av (nI d) j k) ∧ ∀ c, c ≠ 717 → x.2 c = τ c) ?_ ?_ 0 NF (0, τ) ⟨rfl, h0, fun _ _ => rfl⟩ (by omega) (by unfold NF; omega)
  · rintro j fu ⟨y, φ⟩ hj ⟨hy, h1, h2⟩ hk
    have hy : y = nI j := hy
    subst hy
    have h1 : ∀ k, k < 5 → φ 717 k = tf aw ad av (nI d) j k := h1
    have h2 : ∀ c, c ≠ 717 → φ c = τ c := h2
    show Ok (zfX12_month_L74 K (nI d) (fu + 1) (nI j) φ) Q
    unfold zfX12_month_L74
    have hin : inb (nI j) 60 := (n_in (by omega)).mpr (by omega)
    obtain ⟨a1, a2, a3, a4, a5⟩ := hA j hj
    rw [if_neg (by rw [h2 703 (by omega), h66, n_le (by omega) (by omega)]; omega), ck_t hin, n_ix (by omega)]
    refine ok_lg (fun J hJ => ?_)
    have go : ∀ ψ : Mm, (∀ k, k < 5 → ψ 717 k = tf aw ad av (nI d) (j + 1) k) → (∀ c, c ≠ 717 → ψ c = τ c) → Ok (J ψ) Q := fun ψ e1 e2 => by
      simp only [hJ]
      refine ok_lg (fun y2 ey => ?_)
      rw [show nI j + 1 = nI (j + 1) from n_add _ 1] at ey
      exact hk (y2, ψ) ⟨ey, e1, e2⟩
    rw [h2 734 (by omega), a2]
    by_cases c : ad j = nI d
    · rw [if_pos c, ck_t hin, ck_t hin, h2 733 (by omega), a1, h2 735 (by omega), a3, a4.1, ck_t ((n_in (by omega)).mpr (by omega)), n_ix (by omega)]
      refine ok_lg (fun ψ eψ => ?_)
      refine go ψ (fun k hk2 => ?_) (fun c hc => by rw [eψ, zst_n hc]; exact h2 c hc)
      rw [eψ]
      unfold tf
      by_cases e : k = ix (aw j)
      · rw [if_pos ⟨c, e⟩, e, zst_v]
      · rw [if_neg (fun h => e h.2), zst_k e]; exact h1 k hk2
    · rw [if_neg c]
      refine go φ (fun k hk2 => ?_) h2
      unfold tf
      rw [if_neg (fun h => c h.1)]; exact h1 k hk2
  · rintro fu ⟨y, φ⟩ ⟨hy, h1, h2⟩
    have hy : y = nI N := hy
    subst hy
    have h1 : ∀ k, k < 5 → φ 717 k = tf aw ad av (nI d) N k := h1
    have h2 : ∀ c, c ≠ 717 → φ c = τ c := h2
    show Ok (zfX12_month_L74 K (nI d) (fu + 1) (nI N) φ) Q
    unfold zfX12_month_L74
    rw [if_pos (by rw [h2 703 (by omega), h66]; exact Int32.le_refl _)]
    exact hK φ h1 h2
theorem r_m142 {φ : Mm} {n d : Nat} {b : Int32} {A : Nat → Int32} {K : Int32 → Int32 → Mm → Option (Int32 × Mm)} {Q : Int32 × Mm → Prop} (hn : n ≤ 5) (hA : ∀ k, k < n → φ 718 k = A k)
    (hK : ∀ p q, (p = -1 ∧ q = -1 ∧ ∀ k, k < n → ¬ b < A k) ∨ (p = nI d ∧ ∃ t, q = nI t ∧ Brk A b n t) → Ok (K p q φ) Q) : Ok (zfX12_month_L142 K b (nI d) NF (-1) (-1) (nI n - 1) φ) Q := by
  refine ok_up (F := fun fu (x : Int32 × Int32 × Int32) => zfX12_month_L142 K b (nI d) fu x.1 x.2.1 x.2.2 φ) n (fun j x => x.2.2 = nI (n - j) - 1 ∧ ((x.1 = -1 ∧ x.2.1 = -1 ∧ ∀ k, n - j ≤ k → k < n → ¬ b < A k) ∨ (x.1 = nI d ∧ ∃ t, x.2.1 = nI t ∧ n - j ≤ t ∧ t < n ∧ b < A t ∧ ∀ k, n - j ≤ k → k < t → ¬ b < A k))) ?_ ?_ 0 NF (-1, -1, nI n - 1) ⟨rfl, Or.inl ⟨rfl, rfl, fun k h1 h2 => by omega⟩⟩ (by omega) (by unfold NF; omega)
  · rintro j fu ⟨p, q, y⟩ hj ⟨hy, h⟩ hk
    have hy : y = nI (n - j) - 1 := hy
    have hy2 : y = nI (n - j - 1) := by rw [hy, show (1 : Int32) = nI 1 from rfl, n_sub (by omega)]
    subst hy2
    have h : (p = -1 ∧ q = -1 ∧ ∀ k, n - j ≤ k → k < n → ¬ b < A k) ∨ (p = nI d ∧ ∃ t, q = nI t ∧ n - j ≤ t ∧ t < n ∧ b < A t ∧ ∀ k, n - j ≤ k → k < t → ¬ b < A k) := h
    show Ok (zfX12_month_L142 K b (nI d) (fu + 1) p q (nI (n - j - 1)) φ) Q
    unfold zfX12_month_L142
    rw [if_neg (n_nlt0 (by omega)), ck_t ((n_in (by omega)).mpr (by omega)), n_ix (by omega), hA _ (by omega)]
    refine ok_lg (fun J hJ => ?_)
    have go : ∀ p q : Int32, ((p = -1 ∧ q = -1 ∧ ∀ k, n - (j + 1) ≤ k → k < n → ¬ b < A k) ∨ (p = nI d ∧ ∃ t, q = nI t ∧ n - (j + 1) ≤ t ∧ t < n ∧ b < A t ∧ ∀ k, n - (j + 1) ≤ k → k < t → ¬ b < A k)) → Ok (J p q φ) Q := fun p q h => by
      simp only [hJ]
      refine ok_lg (fun y2 ey => ?_)
      refine hk (p, q, y2) ⟨?_, h⟩
      dsimp only
      rw [ey, show n - (j + 1) = n - j - 1 by omega]; grind
    by_cases c : b < A (n - j - 1)
    · rw [if_pos c]
      exact go _ _ (Or.inr ⟨rfl, n - j - 1, rfl, by omega, by omega, c, fun k h1 h2 => by omega⟩)
    · rw [if_neg c]
      refine go _ _ ?_
      rcases h with ⟨a1, a2, a3⟩ | ⟨a1, t, a2, a3, a4, a5, a6⟩
      · refine Or.inl ⟨a1, a2, fun k h1 h2 => ?_⟩
        by_cases e : k = n - j - 1
        · rw [e]; exact c
        · exact a3 k (by omega) h2
      · refine Or.inr ⟨a1, t, a2, by omega, a4, a5, fun k h1 h2 => ?_⟩
        by_cases e : k = n - j - 1
        · rw [e]; exact c
        · exact a6 k (by omega) h2
  · rintro fu ⟨p, q, y⟩ ⟨hy, h⟩
    have hy : y = nI (n - n) - 1 := hy
    rw [Nat.sub_self] at hy
    subst hy
    have h : (p = -1 ∧ q = -1 ∧ ∀ k, n - n ≤ k → k < n → ¬ b < A k) ∨ (p = nI d ∧ ∃ t, q = nI t ∧ n - n ≤ t ∧ t < n ∧ b < A t ∧ ∀ k, n - n ≤ k → k < t → ¬ b < A k) := h
    show Ok (zfX12_month_L142 K b (nI d) (fu + 1) p q (nI 0 - 1) φ) Q
    unfold zfX12_month_L142
    rw [if_pos (by decide)]
    refine hK p q ?_
    rcases h with ⟨a1, a2, a3⟩ | ⟨a1, t, a2, a3, a4, a5, a6⟩
    · exact Or.inl ⟨a1, a2, fun k hk => a3 k (by omega) hk⟩
    · exact Or.inr ⟨a1, t, a2, a4, a5, fun k hk => a6 k (by omega) hk⟩
theorem dA_lt {P : Pm} {s : Mm} {k : Nat} {f : Nat → Int32} (hb : sm 20 (s 0 0)) (hf : f k = -1 ∨ sm 20 (f k)) : s 0 0 < dA (tellP P f) 0 s k ↔ s 0 0 < f k := by
  have hto : pto (tellP P f) k = f k := rfl
  by_cases c : f k = -1
  · have hb2 := sm_to hb (by omega)
    have e1 : ¬ s 0 0 < f k := by
      rw [c, Int32.lt_iff_toInt_lt]
      have e : (-1 : Int32).toInt = -1 := by decide
      omega
    have e2 : ¬ s 0 0 < dA (tellP P f) 0 s k := by
      unfold dA asV
      rw [if_pos (hto.trans c)]
      have lr : ¬ s 0 0 < s 0 0 := by rw [Int32.lt_iff_toInt_lt]; omega
      split
      · split
        · exact lr
        · split
          · exact lr
          · rw [Int32.lt_iff_toInt_lt, zmax_ti, zmin_ti]
            have e : (0 : Int32).toInt = 0 := rfl
            omega
      · exact lr
    exact ⟨fun h => absurd h e2, fun h => absurd h e1⟩
  · rw [dA_to (by rw [hto]; exact c), hto]
theorem Kb.row {P : Pm} {rc : Nat} {s σ τ : Mm} {f g : Nat → Int32} {r : Nat → Int32} (h : Kb (tellP P f) rc s σ τ) (hr : ∀ k, k < pn P → r k = g k) : Kb (tellP P g) rc s σ (wr τ 717 r) := by
  obtain ⟨k1, k2, k3, ⟨p1, p2, p3, p4, p5, p6, p7⟩, k5, k6⟩ := h
  have q : ∀ c, c ≠ 717 → wr τ 717 r c = τ c := fun c hc => wr_n hc
  refine ⟨k1.trans ⟨fun c hc => q c (by omega), fun k _ => by rw [q 714 (by omega)], fun k _ => by rw [q 703 (by omega)]⟩, fun j hj => by rw [q 715 (by omega)]; exact k2 j hj, k3.fr14 (q 714 (by omega)), ⟨by rw [q 703 (by omega)]; exact p1, by rw [q 703 (by omega)]; exact p2, by rw [q 703 (by omega), zst_v], by rw [q 703 (by omega)]; exact p4, by rw [q 710 (by omega)]; exact p5, fun k hk => ?_, fun j hj => ?_⟩, by rw [q 703 (by omega)]; exact k5, ?_⟩
  · rw [q 708 (by omega), q 716 (by omega), q 703 (by omega), wr_s]
    obtain ⟨a, b, c, d, e⟩ := p6 k hk
    exact ⟨a, b, c, hr k hk, e⟩
  · rw [q 709 (by omega)]; exact p7 j hj
  · have : RuR P rc (wr τ 717 r) := RuR.of (P := P) (σ := τ) k6 (q 705 (by omega)) (fun r _ => by rw [q 706 (by omega)])
    exact this
theorem FrT.row {τ0 τ τ1 : Mm} {v : Int32} (f : FrT (zst τ0 703 41 v) τ) (q : ∀ c, c ≠ 717 → τ1 c = τ c) : FrT (zst (wr τ0 717 (τ1 717)) 703 41 v) τ1 := by
  refine ⟨fun x hx => ?_, fun c a1 a2 a3 a4 a5 a6 a7 a8 a9 a10 a11 a12 => ?_⟩
  · rw [q 703 (by omega), f.1 x hx]
    by_cases e : x = 41
    · rw [e, zst_v, zst_v]
    · rw [zst_k e, zst_k e, wr_n (by omega)]
  · rw [zst_n a1]
    by_cases e : c = 717
    · rw [e, wr_s]
    · rw [wr_n e, q c e, f.2 c a1 a2 a3 a4 a5 a6 a7 a8 a9 a10 a11 a12, zst_n a1]
theorem r_month {B : Nat} {P : Pm} {rc d N : Nat} {s υ τ0 : Mm} {aw ad av : Nat → Int32} {K : Int32 → Int32 → Mm → Option (Int32 × Mm)} {Q : Int32 × Mm → Prop} (hB : B < 800000) (hs : Ks P rc B s) (h0 : 0 < pn P) (hkb : Kb P rc s υ τ0) (h41 : τ0 703 41 = s 0 3) (hd : d ≤ 30) (hN : N ≤ 60) (h66 : υ 703 66 = nI N) (hA : ∀ k, k < N → υ 733 k = aw k ∧ υ 734 k = ad k ∧ υ 735 k = av k ∧ sm 5 (aw k) ∧ ix (aw k) < pn P) (hav : ∀ k, k < N → sm 20 (av k))
    (hK : ∀ p q f τb φ, MoE P s (fun j => tf aw ad av (nI j) N) d p q → Kb (tellP P f) rc s υ τb → FrT (zst τb 703 41 (s 0 3)) φ → Ok (K p q φ) Q) : Ok (zfX12_month_L37 (nI d) K NF (-1) (-1) 0 τ0) Q := by
  obtain ⟨p1, p2, p3, p4, p5, p6⟩ := id hs
  have hn5 := p1.1.1
  generalize hF : (fun j => tf aw ad av (nI j) N) = F at hK
  have hFj : ∀ j, tf aw ad av (nI j) N = F j := fun j => by rw [← hF]
  have hF0 : ∀ j k, F j k = -1 ∨ sm 20 (F j k) := fun j k => by rw [← hFj]; exact tf_ok hav k
  have f0 : FrT (zst τ0 703 41 (s 0 3)) τ0 := by rw [← h41]; exact FrT.v0
  refine ok_up (F := fun fu (x : Int32 × Int32 × Int32 × Mm) => zfX12_month_L37 (nI d) K fu x.1 x.2.1 x.2.2.1 x.2.2.2) d (fun j x => x.2.2.1 = nI j ∧ (∃ f τb, Kb (tellP P f) rc s υ τb ∧ FrT (zst τb 703 41 (s 0 3)) x.2.2.2) ∧ (x.1 = -1 → x.2.1 = -1 ∧ RRs P x.2.2.2 (mth P s F j) ∧ ∀ i, i < j → ∀ k, k < pn P → ¬ mth P s F i 0 0 < F i k) ∧ (x.1 ≠ -1 → MoE P s F d x.1 x.2.1)) ?_ ?_ 0 NF (-1, -1, 0, τ0) ⟨rfl, ⟨_, τ0, hkb.t0 p1, f0⟩, fun _ => ⟨rfl, hkb.2.2.1, fun i hi => absurd hi (Nat.not_lt_zero i)⟩, fun h => absurd rfl h⟩ (by omega) (by unfold NF; omega)
  · rintro j fu ⟨p, q, y, τ⟩ hj ⟨hy, ⟨f, τb, g1, g2⟩, g3, g4⟩ hk
    have hy : y = nI j := hy
    subst hy
    have g2 : FrT (zst τb 703 41 (s 0 3)) τ := g2
    have g3 : p = -1 → q = -1 ∧ RRs P τ (mth P s F j) ∧ ∀ i, i < j → ∀ k, k < pn P → ¬ mth P s F i 0 0 < F i k := g3
    have g4 : p ≠ -1 → MoE P s F d p q := g4
    show Ok (zfX12_month_L37 (nI d) K (fu + 1) p q (nI j) τ) Q
    unfold zfX12_month_L37
    rw [if_neg (by rw [n_le (by omega) (by omega)]; omega)]
    by_cases c : p = -1
    case neg =>
      rw [if_neg c]
      exact hK p q f τb τ (g4 c) g1 g2
    case pos =>
    rw [if_pos c]
    obtain ⟨e1, e2, e3⟩ := g3 c
    subst c e1
    have g2 : FrT (zst τb 703 41 (s 0 3)) τ := g2
    have e2 : RRs P τ (mth P s F j) := e2
    refine ok_lg (fun K1 hK1 => ?_)
    refine r_m51 (fun φ1 a1 a2 => ?_)
    simp only [hK1]
    refine ok_lg (fun K2 hK2 => ?_)
    have hlow : ∀ c, (731 ≤ c ∧ c ≤ 735) → φ1 c = υ c := fun c hc => by rw [a2 c (by omega), g2.c (by omega), zst_n (by omega)]; exact g1.1.1 c (by omega)
    have h66' : φ1 703 66 = nI N := by rw [a2 703 (by omega), g2.1 66 (by omega), zst_k (by omega), g1.1.2.2 66 (by omega)]; exact h66
    refine r_m74 (d := j) (aw := aw) (ad := ad) (av := av) hN h66' (fun k hk => by
      rw [hlow 733 (by omega), hlow 734 (by omega), hlow 735 (by omega)]
      obtain ⟨x1, x2, x3, x4, x5⟩ := hA k hk
      exact ⟨x1, x2, x3, x4, by omega⟩) a1 (fun φ2 b1 b2 => ?_)
    simp only [hK2]
    have q2 : ∀ c, c ≠ 717 → φ2 c = τ c := fun c hc => by rw [b2 c hc, a2 c hc]
    have g1' : Kb (tellP P (F j)) rc s υ (wr τb 717 (φ2 717)) := g1.row (fun k hk => by rw [b1 k (by omega), hFj])
    have g2' : FrT (zst (wr τb 717 (φ2 717)) 703 41 (s 0 3)) φ2 := g2.row q2
    have e2' : RRs P φ2 (mth P s F j) := e2.fr14 (q2 714 (by omega))
    refine ok_lg (fun bd0 hbd => ?_)
    rw [show ix 54 = 54 by decide, e2'.2.1] at hbd
    subst hbd
    obtain ⟨w1, w2, w3, w4, w5⟩ := mth_wf p1 hF0 p2 p5 p3 hB j (by omega)
    rw [ok_bd]
    refine ok_mono (g1'.goq (B := B + j) (v := s 0 3) (t := mth P s F j) (Kq.tell p1 (fun k _ => hF0 j k)) w1 w3 w2 w4 p6 g2' e2') (fun ψ hψ => ?_)
    obtain ⟨d1, d2, d3, d4⟩ := hψ
    have hself : zst (mth P s F j) 0 3 (s 0 3) = mth P s F j := zst_self w5
    rw [hself] at d1 d3
    have e24 : ψ 703 24 = nI (pn P) := by rw [d2.1 24 (by omega), zst_k (by omega)]; exact g1'.2.2.2.1.1
    rw [e24]
    refine ok_lg (fun y7 hy7 => ?_)
    rw [hy7]
    refine ok_lg (fun K3 hK3 => ?_)
    refine r_m142 (A := dA (tellP P (F j)) 0 (mth P s F j)) hn5 (fun k hk => (d3 k hk).1) (fun p2 q2 hpq => ?_)
    simp only [hK3]
    refine ok_lg (fun y2 ey => ?_)
    rw [show nI j + 1 = nI (j + 1) from n_add _ 1] at ey
    have hlt := fun k => dA_lt (P := P) (s := mth P s F j) (k := k) (f := F j) w1.1 (hF0 j k)
    refine hk (p2, q2, y2, ψ) ⟨ey, ⟨F j, _, g1', d2⟩, fun hp => ?_, fun hp => ?_⟩
    · have hp : p2 = -1 := hp
      rcases hpq with ⟨x1, x2, x3⟩ | ⟨x1, x2⟩
      · refine ⟨x2, d1, fun i hi k hk => ?_⟩
        by_cases e : i = j
        · exact fun h => x3 k hk ((hlt k).mpr (by rw [e] at h; exact h))
        · exact e3 i (by omega) k hk
      · exact absurd (x1.symm.trans hp) (n_ne1 (by omega))
    · have hp : p2 ≠ -1 := hp
      rcases hpq with ⟨x1, x2, x3⟩ | ⟨x1, t, x2, x3, x4, x5⟩
      · exact absurd x1 hp
      · exact Or.inr ⟨j, t, hj, e3, ⟨x3, (hlt t).mp x4, fun k hk h => x5 k hk ((hlt k).mpr h)⟩, x1, x2⟩
  · rintro fu ⟨p, q, y, τ⟩ ⟨hy, ⟨f, τb, g1, g2⟩, g3, g4⟩
    have hy : y = nI d := hy
    subst hy
    have g3 : p = -1 → q = -1 ∧ RRs P τ (mth P s F d) ∧ ∀ i, i < d → ∀ k, k < pn P → ¬ mth P s F i 0 0 < F i k := g3
    have g4 : p ≠ -1 → MoE P s F d p q := g4
    show Ok (zfX12_month_L37 (nI d) K (fu + 1) p q (nI d) τ) Q
    unfold zfX12_month_L37
    rw [if_pos (Int32.le_refl _)]
    refine hK p q f τb τ ?_ g1 g2
    by_cases c : p = -1
    · obtain ⟨e1, _, e3⟩ := g3 c
      exact Or.inl ⟨c, e1, e3⟩
    · exact g4 c
theorem q_month {B : Nat} (hB : B < 800000) (x y : Int32) : Qy B (zfX11_month x y) (zfX12_month x y) := by
  refine q_gen (-1) (fun P => (0 < pn P ∧ Rok 1 30 x) ∧ Rok 0 1 y) (fun P rc s σ hI hA => month_F hI hA) (fun P rc s σ hI hA => month_G hI hA) (fun P rc s σ hI hA => ?_)
  obtain ⟨hA1, hz⟩ := hA
  obtain ⟨h0, d, d1, d2, d3⟩ := id hA1
  have hn := hI.n
  have hm6 := hI.2.1.1.2.1
  have hs := hI.ks (show B < 900000 by omega)
  obtain ⟨_, N, n1, n2, n3, n4⟩ := id hI.2.2.2.2.2.2.2
  unfold zfX11_month
  refine ok_lg (fun J _ => ?_)
  rw [if_pos ((g_days hI).1.mpr hA1), if_pos (g_what1.mpr hz)]
  subst d3
  obtain ⟨h1, h2, h3, ⟨r1, r2, r3, r4, r5⟩, ⟨hS, s4⟩, h6⟩ := id hI
  rw [ok_bd]
  refine ok_mono (cq_begin h2 h3 r4 hS h0) (fun τ0 hτ => ?_)
  obtain ⟨b1, b2, b3, b4, b5⟩ := hτ
  refine ok_lg (fun K2 hK2 => ?_)
  refine ok_lg (fun K1 hK1 => ?_)
  have yes : ∀ (p q v : Int32) (τ : Mm), FrS σ τ → MoE P s (fun j => tf (σ 700) (σ 701) (σ 702) (nI j) N) d p q → v = (if y = 0 then p else q) → FrS σ (v, τ).2 ∧ ∀ υ, Ivx B P rc s υ → υ = zst (v, τ).2 703 0 0 → Ok (zfX12_month (nI d) y (v, τ).2) (fun b => b.1 = (v, τ).1 ∧ FrS υ b.2) := fun p q v τ fr hmo hv => by
    refine ⟨fr, fun υ hυ e => ?_⟩
    dsimp only at e ⊢
    unfold zfX12_month
    refine ok_lg (fun υ' e' => ?_)
    have : υ' = υ := e'.trans e.symm
    subst this
    refine ok_lg (fun J2 _ => ?_)
    rw [if_neg (fun c => (g_days hυ).2.mp c hA1), if_neg (fun c => g_in1.mp c hz)]
    refine rq_keptb (show B < 900000 by omega) hυ h0 (fun τ1 k1 k2 k3 => ?_)
    refine ok_lg (fun K3 hK3 => ?_)
    have fz : FrS σ υ' := fr.trans (by rw [e]; exact ⟨fun c hc => zst_n (by omega), fun k _ => by rw [zst_n (by omega)], fun k hk => zst_k (by omega)⟩)
    refine r_month (aw := σ 700) (ad := σ 701) (av := σ 702) hB hs h0 k1 k2 d2 n1 (by rw [fz.2.2 66 (by omega)]; exact n3) (fun k hk => ?_) (fun k hk => (n4 k hk).2.2.2.1) (fun p2 q2 f τb φ hmo2 hkb hfr => ?_)
    · rw [fz.1 733 (by omega), fz.1 734 (by omega), fz.1 735 (by omega)]
      obtain ⟨x1, x2, x3, x4, x5, x6, x7⟩ := n4 k hk
      exact ⟨x5.symm, x6.symm, x7.symm, x1, x2⟩
    · obtain ⟨rfl, rfl⟩ := hmo.uniq hmo2
      simp only [hK3]
      rw [ok_bd]
      refine ok_mono (Kb.back (P := tellP P f) hn.1 hm6 hkb hfr) (fun ψ hψ => ?_)
      rw [ok_bd]
      refine ok_mono r_plainly (fun χ hχ => ?_)
      obtain ⟨p1, p2, p3, p4, p5, p6, p7⟩ := hχ
      have fr2 := hψ.1.1.pl p4 p7
      rw [hv]
      by_cases c : y = 0
      · rw [if_pos c, if_pos c, ok_s]; exact ⟨rfl, fr2⟩
      · rw [if_neg c, if_neg c, ok_s]; exact ⟨rfl, fr2⟩
  refine c_month (aw := σ 700) (ad := σ 701) (av := σ 702) hB hI h0 d2 n1 n2 (fun k hk => ⟨rfl, rfl, rfl, (n4 k hk).1, (n4 k hk).2.1⟩) (fun k hk => (n4 k hk).2.2.2.1) b1 b3 b4 b5 (fun τ fr hmo => ?_) (fun p q τ fr hmo => ?_)
  · simp only [hK1]
    rw [ok_s]
    exact yes _ _ _ τ fr hmo (by split <;> rfl)
  · simp only [hK2]
    by_cases c : y = 0
    · rw [if_pos c, ok_s]
      exact yes _ _ _ τ fr hmo (by rw [if_pos c])
    · rw [if_neg c, ok_s]
      exact yes _ _ _ τ fr hmo (by rw [if_neg c])
