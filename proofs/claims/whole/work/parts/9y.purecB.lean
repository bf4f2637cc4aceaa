/-! ===== best: the reference ===== -/
theorem i_nle {a b : Int32} : ¬ b ≤ a ↔ a < b := by rw [Int32.le_iff_toInt_le, Int32.lt_iff_toInt_lt]; omega
theorem i_nlt {a b : Int32} : ¬ a < b ↔ b ≤ a := by rw [Int32.le_iff_toInt_le, Int32.lt_iff_toInt_lt]; omega
theorem PmR.to {P : Pm} {f g : Nat → Int32} {t t2 σ τ : Mm} (h : PmR (tellP P f) t σ) (f7 : ∀ x, (x = 24 ∨ x = 25 ∨ x = 41 ∨ x = 42) → τ 703 x = σ 703 x) (fc : ∀ c, (708 ≤ c ∧ c ≤ 710 ∨ c = 716) → τ c = σ c) (h17 : ∀ k, k < pn P → τ 717 k = g k) (e3 : t2 0 3 = t 0 3) (e6 : t2 6 = t 6) : PmR (tellP P g) t2 τ := by
  obtain ⟨h1, h2, h3, h4, h5, h6, h7⟩ := h
  refine ⟨by rw [f7 24 (by omega)]; exact h1, by rw [f7 25 (by omega)]; exact h2, by rw [f7 41 (by omega), e3]; exact h3, by rw [f7 42 (by omega)]; exact h4, by rw [fc 710 (by omega)]; exact h5, fun k hk => ?_, fun i hi => ?_⟩
  · rw [fc 708 (by omega), fc 716 (by omega), e6]
    obtain ⟨a, b, c, d, e⟩ := h6 k hk
    exact ⟨a, b, c, h17 k hk, e⟩
  · rw [fc 709 (by omega)]; exact h7 i hi
theorem r_L88 {q : Nat} {τ : Mm} {K : Mm → Option Mm} {Q : Mm → Prop} (hz : zIsI q) (h57 : (zs q).2 = 57) (hq : 728 ≤ q) (hK : ∀ φ, (∀ j, j < 57 → φ q j = τ 714 j) → (∀ c, c ≠ q → φ c = τ c) → Ok (K φ) Q) : Ok (zfX12_goBest_L88 K q NF 0 τ) Q := by
  refine ok_up (F := fun fu (x : Int32 × Mm) => zfX12_goBest_L88 K q fu x.1 x.2) 57 (fun i x => x.1 = nI i ∧ (∀ j, j < i → x.2 q j = τ 714 j) ∧ ∀ c, c ≠ q → x.2 c = τ c) ?_ ?_ 0 NF (0, τ) ⟨rfl, fun j hj => absurd hj (Nat.not_lt_zero j), fun _ _ => rfl⟩ (by omega) (by unfold NF; omega)
  · rintro i fu ⟨y, φ⟩ hi ⟨hy, h1, h2⟩ hk
    have hy : y = nI i := hy
    subst hy
    have h1 : ∀ j, j < i → φ q j = τ 714 j := h1
    have h2 : ∀ c, c ≠ q → φ c = τ c := h2
    show Ok (zfX12_goBest_L88 K q (fu + 1) (nI i) φ) Q
    unfold zfX12_goBest_L88
    have hin : inb (nI i) 57 := (n_in (by omega)).mpr (by omega)
    rw [if_neg (by rw [show (57 : Int32) = nI 57 from rfl, n_le (by omega) (by omega)]; omega), ck_t hin, ck_t hz, h57, ck_t hin, n_ix (by omega), h2 714 (by omega)]
    refine ok_lg (fun φ2 e2 => ?_)
    refine ok_lg (fun y2 ey => ?_)
    rw [show nI i + 1 = nI (i + 1) from n_add _ 1] at ey
    refine hk (y2, φ2) ⟨ey, fun j hj => ?_, fun c hc => by dsimp only; rw [e2, zst_n hc]; exact h2 c hc⟩
    dsimp only
    rw [e2]
    by_cases e : j = i
    · rw [e, zst_v]
    · rw [zst_k e]; exact h1 j (by omega)
  · rintro fu ⟨y, φ⟩ ⟨hy, h1, h2⟩
    have hy : y = nI 57 := hy
    subst hy
    show Ok (zfX12_goBest_L88 K q (fu + 1) (nI 57) φ) Q
    unfold zfX12_goBest_L88
    rw [if_pos (by decide)]
    exact hK φ h1 h2
theorem r_L157 {q : Nat} {τ : Mm} {K : Mm → Option Mm} {Q : Mm → Prop} (hz : zIsI q) (h57 : (zs q).2 = 57) (hq : 728 ≤ q) (hK : ∀ φ, (∀ j, j < 57 → φ 714 j = τ q j) → (∀ c, c ≠ 714 → φ c = τ c) → Ok (K φ) Q) : Ok (zfX12_goBest_L157 K q NF 0 τ) Q := by
  refine ok_up (F := fun fu (x : Int32 × Mm) => zfX12_goBest_L157 K q fu x.1 x.2) 57 (fun i x => x.1 = nI i ∧ (∀ j, j < i → x.2 714 j = τ q j) ∧ ∀ c, c ≠ 714 → x.2 c = τ c) ?_ ?_ 0 NF (0, τ) ⟨rfl, fun j hj => absurd hj (Nat.not_lt_zero j), fun _ _ => rfl⟩ (by omega) (by unfold NF; omega)
  · rintro i fu ⟨y, φ⟩ hi ⟨hy, h1, h2⟩ hk
    have hy : y = nI i := hy
    subst hy
    have h1 : ∀ j, j < i → φ 714 j = τ q j := h1
    have h2 : ∀ c, c ≠ 714 → φ c = τ c := h2
    show Ok (zfX12_goBest_L157 K q (fu + 1) (nI i) φ) Q
    unfold zfX12_goBest_L157
    have hin : inb (nI i) 57 := (n_in (by omega)).mpr (by omega)
    rw [if_neg (by rw [show (57 : Int32) = nI 57 from rfl, n_le (by omega) (by omega)]; omega), ck_t hz, h57, ck_t hin, ck_t hin, n_ix (by omega), h2 q (by omega)]
    refine ok_lg (fun φ2 e2 => ?_)
    refine ok_lg (fun y2 ey => ?_)
    rw [show nI i + 1 = nI (i + 1) from n_add _ 1] at ey
    refine hk (y2, φ2) ⟨ey, fun j hj => ?_, fun c hc => by dsimp only; rw [e2, zst_n hc]; exact h2 c hc⟩
    dsimp only
    rw [e2]
    by_cases e : j = i
    · rw [e, zst_v]
    · rw [zst_k e]; exact h1 j (by omega)
  · rintro fu ⟨y, φ⟩ ⟨hy, h1, h2⟩
    have hy : y = nI 57 := hy
    subst hy
    show Ok (zfX12_goBest_L157 K q (fu + 1) (nI 57) φ) Q
    unfold zfX12_goBest_L157
    rw [if_pos (by decide)]
    exact hK φ h1 h2
/-- what trying so many days may change in the reference -/
def FrH (l : Nat) (σ τ : Mm) : Prop := (∀ j, j < 57 → τ 714 j = σ 714 j) ∧ (∀ x, (x < 5 ∨ x = 6 ∨ x = 7 ∨ x = 15 ∨ x = 16 ∨ 17 < x ∧ x ≠ 45 ∧ x ≠ 46) → x ≠ 52 → x ≠ 53 → τ 703 x = σ 703 x) ∧
  ∀ c, (c < 703 ∨ 703 < c ∧ c < 707 ∨ 707 < c ∧ c < 714 ∨ 714 < c ∧ c < 717 ∨ c = 727 ∨ 727 + l < c) → τ c = σ c
theorem FrH.refl {l : Nat} {σ : Mm} : FrH l σ σ := ⟨fun _ _ => rfl, fun _ _ _ _ => rfl, fun _ _ => rfl⟩
/-- what trying goes by, in the reference -/
def Gb (P : Pm) (rc i : Nat) (s0 t σ : Mm) : Prop := (∃ f, PmR (tellP P f) t σ) ∧ σ 703 43 = 0 ∧ RuR P rc σ ∧ (∀ k, k < pn P → k ≠ i → σ 717 k = -1) ∧ RRs P σ t ∧ ∀ k, k < pn P → σ 715 (12 + k) = s0 3 k
theorem r_try {P : Pm} {rc i : Nat} {s0 : Mm} (hP : IvP P) (hi : i < pn P) : ∀ l dd B t dg σ, l ≤ 3 → l < dd → B + l < 900000 → Wt P rc B t → Gb P rc i s0 t σ →
    Ok (zfX12_goBest dd (nI i) (nI l) dg σ) (fun τ => (τ 703 52, τ 703 53) = bst P s0 i l t dg (σ 703 52, σ 703 53) ∧ FrH l σ τ ∧ ∀ k, k < pn P → k ≠ i → τ 717 k = -1) := by
  have hn5 := hP.1.1
  have hm6 := hP.1.2.1
  intro l
  induction l with
  | zero =>
    intro dd B t dg σ hl3 hl hB hw hG
    obtain ⟨dd, rfl⟩ : ∃ e, dd = e + 1 := ⟨dd - 1, by omega⟩
    obtain ⟨h1, h2, h3, h4, h5, h6⟩ := id hG
    unfold zfX12_goBest
    have e12 : (12 : Int32) + nI i = nI (12 + i) := n_add 12 i
    have hin : inb (nI (12 + i)) 57 := (n_in (by omega)).mpr (by omega)
    rw [if_pos (show nI 0 = 0 from rfl), e12, ck_t hin, ck_t hin, n_ix (by omega), (h5.1 i hi).2.2.1, h6 i hi]
    refine ok_lg (fun x hx => ?_)
    refine ok_lg (fun J hJ => ?_)
    have go : bst P s0 i 0 t dg (σ 703 52, σ 703 53) = (dg, x) → Ok (J σ) (fun τ => (τ 703 52, τ 703 53) = bst P s0 i 0 t dg (σ 703 52, σ 703 53) ∧ FrH 0 σ τ ∧ ∀ k, k < pn P → k ≠ i → τ 717 k = -1) := fun h => by
      simp only [hJ]
      refine ok_lg (fun φ1 e1 => ?_)
      refine ok_lg (fun φ2 e2 => ?_)
      rw [ok_s, h]
      have q : ∀ c, c ≠ 703 → φ2 c = σ c := fun c hc => by rw [e2, zst_n hc, e1, zst_n hc]
      refine ⟨by rw [e2, zst_k (by omega), zst_v, e1, zst_v], ⟨fun k _ => by rw [q 714 (by omega)], fun k _ a b => by rw [e2, zst_k b, e1, zst_k a], fun c hc => q c (by omega)⟩, fun k x1 x2 => by rw [q 717 (by omega)]; exact h4 k x1 x2⟩
    have un : bst P s0 i 0 t dg (σ 703 52, σ 703 53) = if σ 703 52 = -1 then (dg, x) else if x ≤ σ 703 53 then (σ 703 52, σ 703 53) else (dg, x) := by rw [hx]; rfl
    by_cases c1 : σ 703 52 = -1
    · rw [if_pos c1]; exact go (by rw [un, if_pos c1])
    · rw [if_neg c1]
      by_cases c2 : σ 703 53 < x
      · rw [if_pos c2]
        exact go (by rw [un, if_neg c1, if_neg (i_nle.mpr c2)])
      · rw [if_neg c2, ok_s]
        exact ⟨by rw [un, if_neg c1, if_pos (i_nlt.mp c2)], FrH.refl, h4⟩
  | succ l ih =>
    intro dd B t dg σ hl3 hl hB hw hG
    obtain ⟨dd, rfl⟩ : ∃ e, dd = e + 1 := ⟨dd - 1, by omega⟩
    obtain ⟨⟨f, h1⟩, h2, h3, h4, h5, h6⟩ := id hG
    have hb := hw.1.1
    unfold zfX12_goBest
    rw [if_neg (show ¬ nI (l + 1) = 0 by rw [show (0 : Int32) = nI 0 from rfl, n_eq (by omega) (by omega)]; omega)]
    refine ok_lg (fun J hJ => ?_)
    generalize hg : (fun (j : Nat) (r : Int32 × Int32) => bst P s0 i l (dayS (tellP P (toF i j)) 0 t) (dg * 100 + nI j) r) = g
    have un : bst P s0 i (l + 1) t dg (σ 703 52, σ 703 53) = bfo g (ix (t 0 0) + 1) (σ 703 52, σ 703 53) := by rw [← hg]; rfl
    have main : ∀ q, q = 728 + l → zIsI q → (zs q).2 = 57 → Ok (J q σ) (fun τ => (τ 703 52, τ 703 53) = bst P s0 i (l + 1) t dg (σ 703 52, σ 703 53) ∧ FrH (l + 1) σ τ ∧ ∀ k, k < pn P → k ≠ i → τ 717 k = -1) := fun q hq hz h57 => by
      simp only [hJ]
      refine ok_lg (fun K1 hK1 => ?_)
      refine r_L88 hz h57 (by omega) (fun φ0 f1 f2 => ?_)
      simp only [hK1]
      refine ok_lg (fun K2 hK2 => ?_)
      refine ok_up (F := fun fu (x : Int32 × Mm) => zfX12_goBest_L116 q K2 (nI i) (zfX12_goBest dd) (nI (l + 1)) dg fu x.1 x.2) (ix (t 0 0) + 1) (fun j x => x.1 = nI j ∧ (x.2 703 52, x.2 703 53) = bfo g j (σ 703 52, σ 703 53) ∧ FrH (l + 1) σ x.2 ∧ (∀ k, k < pn P → k ≠ i → x.2 717 k = -1) ∧ ∀ k, k < 57 → x.2 q k = σ 714 k) ?_ ?_ 0 NF (0, φ0)
        ⟨rfl, by dsimp only; rw [f2 703 (by omega)]; rfl, ⟨fun j _ => by dsimp only; rw [f2 714 (by omega)], fun x _ _ _ => by dsimp only; rw [f2 703 (by omega)], fun c hc => f2 c (by omega)⟩, fun k a b => by dsimp only; rw [f2 717 (by omega)]; exact h4 k a b, f1⟩ (by omega) (by unfold NF; have := hb.2; omega)
      · rintro j fu ⟨y, τ⟩ hj ⟨hy, g1, g2, g3, g4⟩ hk
        have hy : y = nI j := hy
        subst hy
        have g1 : (τ 703 52, τ 703 53) = bfo g j (σ 703 52, σ 703 53) := g1
        have g2 : FrH (l + 1) σ τ := g2
        have g3 : ∀ k, k < pn P → k ≠ i → τ 717 k = -1 := g3
        have g4 : ∀ k, k < 57 → τ q k = σ 714 k := g4
        have hj20 : j ≤ 20 := by have := hb.2; omega
        show Ok (zfX12_goBest_L116 q K2 (nI i) (zfX12_goBest dd) (nI (l + 1)) dg (fu + 1) (nI j) τ) _
        unfold zfX12_goBest_L116
        have e54 : τ q (ix 54) = nI (ix (t 0 0)) := by rw [show ix 54 = 54 by decide, g4 54 (by omega), h5.2.1]; exact hb.1
        rw [ck_t hz, h57, ck_t (show inb 54 57 by decide), e54, if_neg (by have := hb.2; rw [n_lt (by omega) (by omega)]; omega), ck_t ((n_in (by omega)).mpr (by omega)), n_ix (by omega)]
        refine ok_lg (fun τ1 e1 => ?_)
        have q1 : ∀ c, c ≠ 717 → τ1 c = τ c := fun c hc => by rw [e1, zst_n hc]
        have q7 : ∀ x, (x < 5 ∨ x = 6 ∨ x = 7 ∨ x = 15 ∨ x = 16 ∨ 17 < x ∧ x ≠ 45 ∧ x ≠ 46) → x ≠ 52 → x ≠ 53 → τ1 703 x = σ 703 x := fun x a b c => by rw [q1 703 (by omega)]; exact g2.2.1 x a b c
        have M1 : PmR (tellP P (toF i j)) t τ1 := h1.to (fun x hx => q7 x (by omega) (by omega) (by omega)) (fun c hc => by rw [q1 c (by omega)]; exact g2.2.2 c (by omega)) (fun k hk2 => by
          rw [e1]
          unfold toF
          by_cases e : k = i
          · rw [if_pos e, e, zst_v]
          · rw [if_neg e, zst_k e]; exact g3 k hk2 e) rfl rfl
        have A1 : RRs P τ1 t := h5.row hn5 hm6 (fun k hk2 => by rw [q1 714 (by omega)]; exact g2.1 k hk2)
        have U1 : RuR P rc τ1 := h3.of (by rw [q1 705 (by omega)]; exact g2.2.2 705 (by omega)) (fun r _ => by rw [q1 706 (by omega), g2.2.2 706 (by omega)])
        have U1' : RuR (tellP P (toF i j)) rc τ1 := U1
        have wP := tellP_w hP.1 hP.2.2.1 (fun k _ => toF_ok (i := i) hj20 k)
        have wS : WFs (tellP P (toF i j)) t := hw.1
        have wR : RuS (tellP P (toF i j)) rc t := hw.2.1
        have wW : WFw (tellP P (toF i j)) := hP.2.1
        rw [ok_bd]
        refine ok_mono (r_day (f := 0) (rc := rc) wP wW wS wR hw.2.2.2 (show RRs (tellP P (toF i j)) τ1 t from A1) M1 (Or.inl ⟨hP.2.2.1, by rw [q7 43 (by omega) (by omega) (by omega)]; exact h2⟩) U1') (fun φ hφ => ?_)
        obtain ⟨d1, d2, d3, d4, d5, d6, d7⟩ := hφ
        have ft : FrT τ1 φ := ⟨fun x hx => d6 x hx, fun c a1 a2 a3 a4 a5 a6 a7 a8 a9 a10 a11 a12 => d7 c a1 a2 a3 a4 a5 a6 a7 a8 a9 a10⟩
        have el : nI (l + 1) - 1 = nI l := by rw [show (1 : Int32) = nI 1 from rfl, n_sub (by omega)]; rfl
        have ed : (100 : Int32) * dg + nI j = dg * 100 + nI j := by grind
        have wt : Wt P rc (B + 1) (dayS (tellP P (toF i j)) 0 t) := hw.day hP (fun k => toF_ok hj20 k) (by omega)
        have d1' : RRs P φ (dayS (tellP P (toF i j)) 0 t) := d1
        have h17 : ∀ k, k < pn P → k ≠ i → φ 717 k = -1 := fun k a b => by rw [ft.c (by omega), e1, zst_k b]; exact g3 k a b
        rw [ok_bd, el, ed]
        refine ok_mono (ih dd (B + 1) _ (dg * 100 + nI j) φ (by omega) (by omega) (by omega) wt ⟨⟨_, M1.to (g := fun k => φ 717 k) (fun x hx => ft.1 x (by omega)) (fun c hc => ft.c (by omega)) (fun _ _ => rfl) dayS_3 dayS_6⟩, by rw [ft.1 43 (by omega), q7 43 (by omega) (by omega) (by omega)]; exact h2, U1.fr ft, h17, d1', fun k hk2 => by rw [ft.c (by omega), q1 715 (by omega), g2.2.2 715 (by omega)]; exact h6 k hk2⟩) (fun ψ hψ => ?_)
        obtain ⟨b1, b2, b3⟩ := hψ
        refine ok_lg (fun K3 hK3 => ?_)
        refine r_L157 hz h57 (by omega) (fun χ c1 c2 => ?_)
        simp only [hK3]
        refine ok_lg (fun y2 ey => ?_)
        rw [show nI j + 1 = nI (j + 1) from n_add _ 1] at ey
        have eq : ∀ k, k < 57 → ψ q k = σ 714 k := fun k hk2 => by rw [b2.2.2 q (by omega), ft.c (by omega), q1 q (by omega)]; exact g4 k hk2
        refine hk (y2, χ) ⟨ey, ?_, ⟨fun k hk2 => by dsimp only; rw [c1 k hk2]; exact eq k hk2, fun x a b c => by dsimp only; rw [c2 703 (by omega), b2.2.1 x a b c, ft.1 x (by omega)]; exact q7 x a b c, fun c hc => by dsimp only; rw [c2 c (by omega), b2.2.2 c (by omega), ft.c (by omega), q1 c (by omega)]; exact g2.2.2 c hc⟩, fun k a b => by dsimp only; rw [c2 717 (by omega)]; exact b3 k a b, fun k hk2 => by dsimp only; rw [c2 q (by omega)]; exact eq k hk2⟩
        dsimp only
        rw [c2 703 (by omega), b1]
        have e79 : (φ 703 52, φ 703 53) = (τ 703 52, τ 703 53) := by rw [ft.1 52 (by omega), ft.1 53 (by omega), q1 703 (by omega)]
        rw [e79, g1, ← hg]
        rfl
      · rintro fu ⟨y, τ⟩ ⟨hy, g1, g2, g3, g4⟩
        have hy : y = nI (ix (t 0 0) + 1) := hy
        subst hy
        have g1 : (τ 703 52, τ 703 53) = bfo g (ix (t 0 0) + 1) (σ 703 52, σ 703 53) := g1
        have g4 : ∀ k, k < 57 → τ q k = σ 714 k := g4
        show Ok (zfX12_goBest_L116 q K2 (nI i) (zfX12_goBest dd) (nI (l + 1)) dg (fu + 1) (nI (ix (t 0 0) + 1)) τ) _
        unfold zfX12_goBest_L116
        have e54 : τ q (ix 54) = nI (ix (t 0 0)) := by rw [show ix 54 = 54 by decide, g4 54 (by omega), h5.2.1]; exact hb.1
        rw [ck_t hz, h57, ck_t (show inb 54 57 by decide), e54, if_pos (by have := hb.2; rw [n_lt (by omega) (by omega)]; omega)]
        simp only [hK2]
        rw [ok_s, un]
        exact ⟨g1, g2, g3⟩
    by_cases c1 : l = 0
    · rw [if_pos (by rw [c1]; rfl)]
      exact main 728 (by omega) (by decide) (by decide)
    · rw [if_neg (show ¬ nI (l + 1) = 1 by rw [show (1 : Int32) = nI 1 from rfl, n_eq (by omega) (by omega)]; omega)]
      by_cases c2 : l = 1
      · rw [if_pos (by rw [c2]; rfl)]
        exact main 729 (by omega) (by decide) (by decide)
      · rw [if_neg (show ¬ nI (l + 1) = 2 by rw [show (2 : Int32) = nI 2 from rfl, n_eq (by omega) (by omega)]; omega)]
        exact main 730 (by omega) (by decide) (by decide)
