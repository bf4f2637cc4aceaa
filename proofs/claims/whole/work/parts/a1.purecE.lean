/-! ===== odds: the reference ===== -/
theorem r_L38 {l : Nat} {τ : Mm} {K : Mm → Option Mm} {Q : Mm → Prop} (hl : l ≤ 10) (hK : ∀ φ, (∀ j, j < 57 → φ 736 (57 * l + j) = τ 714 j) → (∀ x, (x < 57 * l ∨ 57 * l + 57 ≤ x) → φ 736 x = τ 736 x) → (∀ c, c ≠ 736 → φ c = τ c) → Ok (K φ) Q) : Ok (zfX12_goOdds_L38 K (nI l) NF 0 τ) Q := by
  refine ok_up (F := fun fu (x : Int32 × Mm) => zfX12_goOdds_L38 K (nI l) fu x.1 x.2) 57 (fun i x => x.1 = nI i ∧ (∀ j, j < i → x.2 736 (57 * l + j) = τ 714 j) ∧ (∀ y, (y < 57 * l ∨ 57 * l + 57 ≤ y) → x.2 736 y = τ 736 y) ∧ ∀ c, c ≠ 736 → x.2 c = τ c) ?_ ?_ 0 NF (0, τ) ⟨rfl, fun j hj => absurd hj (Nat.not_lt_zero j), fun _ _ => rfl, fun _ _ => rfl⟩ (by omega) (by unfold NF; omega)
  · rintro i fu ⟨y, φ⟩ hi ⟨hy, h1, h2, h3⟩ hk
    have hy : y = nI i := hy
    subst hy
    have h1 : ∀ j, j < i → φ 736 (57 * l + j) = τ 714 j := h1
    have h2 : ∀ y, (y < 57 * l ∨ 57 * l + 57 ≤ y) → φ 736 y = τ 736 y := h2
    have h3 : ∀ c, c ≠ 736 → φ c = τ c := h3
    show Ok (zfX12_goOdds_L38 K (nI l) (fu + 1) (nI i) φ) Q
    unfold zfX12_goOdds_L38
    have e1 : (57 : Int32) * nI l + nI i = nI (57 * l + i) := by rw [show (57 : Int32) * nI l = nI (57 * l) from n_mul 57 l, n_add]
    rw [if_neg (by rw [show (57 : Int32) = nI 57 from rfl, n_le (by omega) (by omega)]; omega), ck_t ((n_in (by omega)).mpr (by omega)), e1, ck_t ((n_in (by omega)).mpr (by omega)), n_ix (by omega), n_ix (by omega), h3 714 (by omega)]
    refine ok_lg (fun φ2 e2 => ?_)
    refine ok_lg (fun y2 ey => ?_)
    rw [show nI i + 1 = nI (i + 1) from n_add _ 1] at ey
    refine hk (y2, φ2) ⟨ey, fun j hj => ?_, fun y hy => by dsimp only; rw [e2, zst_k (by omega)]; exact h2 y hy, fun c hc => by dsimp only; rw [e2, zst_n hc]; exact h3 c hc⟩
    dsimp only
    rw [e2]
    by_cases e : j = i
    · rw [e, zst_v]
    · rw [zst_k (by omega)]; exact h1 j (by omega)
  · rintro fu ⟨y, φ⟩ ⟨hy, h1, h2, h3⟩
    have hy : y = nI 57 := hy
    subst hy
    show Ok (zfX12_goOdds_L38 K (nI l) (fu + 1) (nI 57) φ) Q
    unfold zfX12_goOdds_L38
    rw [if_pos (by decide)]
    exact hK φ h1 h2 h3
theorem r_L133 {l : Nat} {τ : Mm} {K : Mm → Option Mm} {Q : Mm → Prop} (hl : l ≤ 10) (hK : ∀ φ, (∀ j, j < 57 → φ 714 j = τ 736 (57 * l + j)) → (∀ c, c ≠ 714 → φ c = τ c) → Ok (K φ) Q) : Ok (zfX12_goOdds_L133 K (nI l) NF 0 τ) Q := by
  refine ok_up (F := fun fu (x : Int32 × Mm) => zfX12_goOdds_L133 K (nI l) fu x.1 x.2) 57 (fun i x => x.1 = nI i ∧ (∀ j, j < i → x.2 714 j = τ 736 (57 * l + j)) ∧ ∀ c, c ≠ 714 → x.2 c = τ c) ?_ ?_ 0 NF (0, τ) ⟨rfl, fun j hj => absurd hj (Nat.not_lt_zero j), fun _ _ => rfl⟩ (by omega) (by unfold NF; omega)
  · rintro i fu ⟨y, φ⟩ hi ⟨hy, h1, h3⟩ hk
    have hy : y = nI i := hy
    subst hy
    have h1 : ∀ j, j < i → φ 714 j = τ 736 (57 * l + j) := h1
    have h3 : ∀ c, c ≠ 714 → φ c = τ c := h3
    show Ok (zfX12_goOdds_L133 K (nI l) (fu + 1) (nI i) φ) Q
    unfold zfX12_goOdds_L133
    have e1 : (57 : Int32) * nI l + nI i = nI (57 * l + i) := by rw [show (57 : Int32) * nI l = nI (57 * l) from n_mul 57 l, n_add]
    rw [if_neg (by rw [show (57 : Int32) = nI 57 from rfl, n_le (by omega) (by omega)]; omega), e1, ck_t ((n_in (by omega)).mpr (by omega)), ck_t ((n_in (by omega)).mpr (by omega)), n_ix (by omega), n_ix (by omega), h3 736 (by omega)]
    refine ok_lg (fun φ2 e2 => ?_)
    refine ok_lg (fun y2 ey => ?_)
    rw [show nI i + 1 = nI (i + 1) from n_add _ 1] at ey
    refine hk (y2, φ2) ⟨ey, fun j hj => ?_, fun c hc => by dsimp only; rw [e2, zst_n hc]; exact h3 c hc⟩
    dsimp only
    rw [e2]
    by_cases e : j = i
    · rw [e, zst_v]
    · rw [zst_k e]; exact h1 j (by omega)
  · rintro fu ⟨y, φ⟩ ⟨hy, h1, h3⟩
    have hy : y = nI 57 := hy
    subst hy
    show Ok (zfX12_goOdds_L133 K (nI l) (fu + 1) (nI 57) φ) Q
    unfold zfX12_goOdds_L133
    rw [if_pos (by decide)]
    exact hK φ h1 h3
/-- what splitting so many days may change in the reference -/
def FrW (l : Nat) (σ τ : Mm) : Prop := (∀ j, j < 57 → τ 714 j = σ 714 j) ∧ (∀ x, (x < 5 ∨ x = 6 ∨ x = 7 ∨ x = 15 ∨ x = 16 ∨ 17 < x ∧ x ≠ 45 ∧ x ≠ 46) → x ≠ 67 → τ 703 x = σ 703 x) ∧ (∀ x, 57 * (l + 1) ≤ x → τ 736 x = σ 736 x) ∧
  ∀ c, (c < 703 ∨ 703 < c ∧ c < 707 ∨ 707 < c ∧ c < 714 ∨ 714 < c ∧ c < 718 ∨ 726 < c ∧ c ≠ 736) → τ c = σ c
theorem FrW.refl {l : Nat} {σ : Mm} : FrW l σ σ := ⟨fun _ _ => rfl, fun _ _ _ => rfl, fun _ _ => rfl, fun _ _ => rfl⟩
/-- what splitting goes by, in the reference -/
def Go (P : Pm) (rc r : Nat) (t σ : Mm) : Prop := PmR P t σ ∧ σ 703 43 = 0 ∧ RuR P rc σ ∧ RRs P σ t ∧ σ 703 33 = nI r
theorem PmR.frw {P : Pm} {l : Nat} {t σ τ : Mm} (h : PmR P t σ) (f : FrW l σ τ) : PmR P t τ := by
  obtain ⟨h1, h2, h3, h4, h5, h6, h7⟩ := h
  refine ⟨by rw [f.2.1 24 (by omega) (by omega)]; exact h1, by rw [f.2.1 25 (by omega) (by omega)]; exact h2, by rw [f.2.1 41 (by omega) (by omega)]; exact h3, by rw [f.2.1 42 (by omega) (by omega)]; exact h4, by rw [f.2.2.2 710 (by omega)]; exact h5, fun k hk => ?_, fun i hi => ?_⟩
  · rw [f.2.2.2 708 (by omega), f.2.2.2 717 (by omega), f.2.2.2 716 (by omega)]; exact h6 k hk
  · rw [f.2.2.2 709 (by omega)]; exact h7 i hi
theorem r_split {P : Pm} {rc r : Nat} {pr : Int32} (hP : IvP P) (hr : r ≤ 100) : ∀ l dd B t m σ, l ≤ 10 → l < dd → m ≤ 1000000000 → B + l < 900000 → Wt P rc B t → Go P rc r t σ →
    Ok (zfX12_goOdds dd (nI l) (nI m) pr σ) (fun τ => τ 703 67 = σ 703 67 + nI (ods P r pr l t m) ∧ FrW l σ τ) := by
  have hn5 := hP.1.1
  have hm6 := hP.1.2.1
  have a0 : ∀ x : Int32, x + nI 0 = x := fun x => by rw [n_0]; grind
  intro l
  induction l with
  | zero =>
    intro dd B t m σ hl3 hl hm hB hw hG
    obtain ⟨dd, rfl⟩ : ∃ e, dd = e + 1 := ⟨dd - 1, by omega⟩
    obtain ⟨h1, h2, h3, h4, h5⟩ := id hG
    unfold zfX12_goOdds
    by_cases c0 : m = 0
    · rw [if_pos (by rw [c0]; rfl), ok_s, c0, ods_0, a0]
      exact ⟨rfl, FrW.refl⟩
    · rw [if_neg (show ¬ nI m = 0 by rw [show (0 : Int32) = nI 0 from rfl, n_eq (by omega) (by omega)]; exact c0), if_pos (show nI 0 = 0 from rfl)]
      refine ok_lg (fun J hJ => ?_)
      have go : ∀ v, v = nI (ods P r pr 0 t m) → Ok (J v σ) (fun τ => τ 703 67 = σ 703 67 + nI (ods P r pr 0 t m) ∧ FrW 0 σ τ) := fun v hv => by
        simp only [hJ]
        refine ok_lg (fun φ1 e1 => ?_)
        rw [ok_s]
        exact ⟨by rw [e1, zst_v, hv], ⟨fun _ _ => by rw [e1, zst_n (by omega)], fun x _ hx => by rw [e1, zst_k hx], fun x _ => by rw [e1, zst_n (by omega)], fun c hc => by rw [e1, zst_n (by omega)]⟩⟩
      rw [show ix 54 = 54 by decide, h4.2.1]
      by_cases c1 : t 0 0 < pr
      · rw [if_pos c1]; exact go 0 (by unfold ods; rw [if_pos c1]; rfl)
      · rw [if_neg c1]; exact go _ (by unfold ods; rw [if_neg c1])
  | succ l ih =>
    intro dd B t m σ hl3 hl hm hB hw hG
    obtain ⟨dd, rfl⟩ : ∃ e, dd = e + 1 := ⟨dd - 1, by omega⟩
    obtain ⟨h1, h2, h3, h4, h5⟩ := id hG
    unfold zfX12_goOdds
    by_cases c0 : m = 0
    · rw [if_pos (by rw [c0]; rfl), ok_s, c0, ods_0, a0]
      exact ⟨rfl, FrW.refl⟩
    · have hfe := o_le (m := m) hr
      rw [if_neg (show ¬ nI m = 0 by rw [show (0 : Int32) = nI 0 from rfl, n_eq (by omega) (by omega)]; exact c0), if_neg (show ¬ nI (l + 1) = 0 by rw [show (0 : Int32) = nI 0 from rfl, n_eq (by omega) (by omega)]; omega)]
      have un : ods P r pr (l + 1) t m = ods P r pr l (dayS P 1 t) (m * r / 100) + ods P r pr l (dayS P 0 t) (m - m * r / 100) := by
        show (if m = 0 then 0 else _) = _
        rw [if_neg c0]
      rw [un]
      refine ok_lg (fun K1 hK1 => ?_)
      refine r_L38 (by omega) (fun φ0 f1 f2 f3 => ?_)
      simp only [hK1]
      rw [f3 703 (by omega), h5, o_fe hm hr]
      generalize hfm : m * r / 100 = fe at hfe ⊢
      refine ok_lg (fun x4 hx4 => ?_)
      subst hx4
      refine ok_lg (fun K2 hK2 => ?_)
      have f0 : FrW (l + 1) σ φ0 := ⟨fun j _ => by rw [f3 714 (by omega)], fun x _ _ => by rw [f3 703 (by omega)], fun x hx => f2 x (by omega), fun c hc => f3 c (by omega)⟩
      refine ok_up (F := fun fu (x : Int32 × Mm) => zfX12_goOdds_L88 K2 (zfX12_goOdds dd) (nI (l + 1)) pr (nI fe) (nI m) fu x.1 x.2) 2 (fun k x => x.1 = nI k ∧ x.2 703 67 = σ 703 67 + nI ((if k = 0 then 0 else ods P r pr l (dayS P 1 t) fe) + (if k < 2 then 0 else ods P r pr l (dayS P 0 t) (m - fe))) ∧ FrW (l + 1) σ x.2 ∧ ∀ j, j < 57 → x.2 736 (57 * (l + 1) + j) = σ 714 j) ?_ ?_ 0 NF (0, φ0) ⟨rfl, by dsimp only; rw [f3 703 (by omega), if_pos rfl, if_pos (by omega)]; exact (a0 _).symm, f0, f1⟩ (by omega) (by unfold NF; omega)
      · rintro k fu ⟨y, τ⟩ hk2 ⟨hy, g1, g2, g3⟩ hk
        have hy : y = nI k := hy
        subst hy
        have g1 : τ 703 67 = σ 703 67 + nI ((if k = 0 then 0 else ods P r pr l (dayS P 1 t) fe) + (if k < 2 then 0 else ods P r pr l (dayS P 0 t) (m - fe))) := g1
        have g2 : FrW (l + 1) σ τ := g2
        have g3 : ∀ j, j < 57 → τ 736 (57 * (l + 1) + j) = σ 714 j := g3
        show Ok (zfX12_goOdds_L88 K2 (zfX12_goOdds dd) (nI (l + 1)) pr (nI fe) (nI m) (fu + 1) (nI k) τ) _
        unfold zfX12_goOdds_L88
        rw [if_neg (by rw [show (2 : Int32) = nI 2 from rfl, n_le (by omega) (by omega)]; omega)]
        refine ok_lg (fun J hJ => ?_)
        have turn : ∀ (f : Int32) (w : Nat), w ≤ 1000000000 → (∀ (φ : Mm) (J2 : Int32 → Mm → Option Mm) (R : Mm → Prop), Ok (J2 (nI w) φ) R → Ok (if nI k = 0 then J2 (nI fe) φ else J2 (nI m - nI fe) φ) R) → ((if k = 0 then 0 else ods P r pr l (dayS P 1 t) fe) + (if k < 2 then 0 else ods P r pr l (dayS P 0 t) (m - fe)) + ods P r pr l (dayS P f t) w = (if k + 1 = 0 then 0 else ods P r pr l (dayS P 1 t) fe) + (if k + 1 < 2 then 0 else ods P r pr l (dayS P 0 t) (m - fe))) →
            Ok (J f τ) (fun τ => τ 703 67 = σ 703 67 + nI (ods P r pr l (dayS P 1 t) fe + ods P r pr l (dayS P 0 t) (m - fe)) ∧ FrW (l + 1) σ τ) := fun f w hw9 hJ3 hsum => by
          simp only [hJ]
          rw [ok_bd]
          have M1 := h1.frw g2
          have U1 : RuR P rc τ := h3.of (g2.2.2.2 705 (by omega)) (fun r _ => by rw [g2.2.2.2 706 (by omega)])
          refine ok_mono (r_day (f := f) (rc := rc) hP.1 hP.2.1 hw.1 hw.2.1 hw.2.2.2 (h4.row hn5 hm6 g2.1) M1 (Or.inl ⟨hP.2.2.1, by rw [g2.2.1 43 (by omega) (by omega)]; exact h2⟩) U1) (fun φ hφ => ?_)
          obtain ⟨d1, d2, d3, d4, d5, d6, d7⟩ := hφ
          have ft : FrT τ φ := ⟨fun x hx => d6 x hx, fun c a1 a2 a3 a4 a5 a6 a7 a8 a9 a10 a11 a12 => d7 c a1 a2 a3 a4 a5 a6 a7 a8 a9 a10⟩
          refine ok_lg (fun J2 hJ2 => ?_)
          refine hJ3 φ J2 _ ?_
          simp only [hJ2]
          have el : nI (l + 1) - 1 = nI l := by rw [show (1 : Int32) = nI 1 from rfl, n_sub (by omega)]; rfl
          rw [ok_bd, el]
          refine ok_mono (ih dd (B + 1) _ w φ (by omega) (by omega) hw9 (by omega) (hw.day0 hP (by omega)) ⟨M1.fr ft dayS_3 dayS_6, by rw [ft.1 43 (by omega), g2.2.1 43 (by omega) (by omega)]; exact h2, U1.fr ft, d1, by rw [ft.1 33 (by omega), g2.2.1 33 (by omega) (by omega)]; exact h5⟩) (fun ψ hψ => ?_)
          obtain ⟨b1, b2⟩ := hψ
          refine ok_lg (fun K3 hK3 => ?_)
          refine r_L133 (by omega) (fun χ c1 c2 => ?_)
          simp only [hK3]
          refine ok_lg (fun y2 ey => ?_)
          rw [show nI k + 1 = nI (k + 1) from n_add _ 1] at ey
          have eq : ∀ j, j < 57 → ψ 736 (57 * (l + 1) + j) = σ 714 j := fun j hj => by rw [b2.2.2.1 _ (by omega), ft.c (by omega)]; exact g3 j hj
          refine hk (y2, χ) ⟨ey, ?_, ⟨fun j hj => by dsimp only; rw [c1 j hj]; exact eq j hj, fun x a b => by dsimp only; rw [c2 703 (by omega), b2.2.1 x a b, ft.1 x (by omega)]; exact g2.2.1 x a b, fun x hx => by dsimp only; rw [c2 736 (by omega), b2.2.2.1 x (by omega), ft.c (by omega)]; exact g2.2.2.1 x hx, fun c hc => by dsimp only; rw [c2 c (by omega), b2.2.2.2 c (by omega), ft.c (by omega)]; exact g2.2.2.2 c hc⟩, fun j hj => by dsimp only; rw [c2 736 (by omega)]; exact eq j hj⟩
          dsimp only
          rw [c2 703 (by omega), b1, ft.1 67 (by omega), g1, ← hsum, ← n_add _ (ods P r pr l (dayS P f t) w)]
          grind
        by_cases c1 : k = 0
        · subst c1
          rw [if_pos (show nI 0 = 0 from rfl)]
          refine turn 1 fe (by omega) (fun φ J2 R h => by rw [if_pos (show nI 0 = 0 from rfl)]; exact h) ?_
          rw [if_pos rfl, if_pos (by omega), if_neg (by omega), if_pos (by omega)]; omega
        · have hk1 : k = 1 := by omega
          subst hk1
          rw [if_neg (show ¬ nI 1 = 0 by decide)]
          refine turn 0 (m - fe) (by omega) (fun φ J2 R h => by rw [if_neg (show ¬ nI 1 = 0 by decide), n_sub hfe]; exact h) ?_
          rw [if_neg (by omega), if_pos (by omega), if_neg (by omega), if_neg (by omega)]; omega
      · rintro fu ⟨y, τ⟩ ⟨hy, g1, g2, g3⟩
        have hy : y = nI 2 := hy
        subst hy
        have g1 : τ 703 67 = σ 703 67 + nI ((if 2 = 0 then 0 else ods P r pr l (dayS P 1 t) fe) + (if 2 < 2 then 0 else ods P r pr l (dayS P 0 t) (m - fe))) := g1
        rw [if_neg (by omega), if_neg (by omega)] at g1
        show Ok (zfX12_goOdds_L88 K2 (zfX12_goOdds dd) (nI (l + 1)) pr (nI fe) (nI m) (fu + 1) (nI 2) τ) _
        unfold zfX12_goOdds_L88
        rw [if_pos (by decide)]
        simp only [hK2]
        rw [ok_s]
        exact ⟨g1, g2⟩
theorem odds_F {B : Nat} {x y : Int32} {P : Pm} {rc : Nat} {s σ : Mm} (hI : Ivx B P rc s σ) (hA : ¬ (0 < pn P ∧ Rok 1 10 x ∧ Rok 0 20 y)) : zfX11_odds x y σ = some (-1, σ) := by
  unfold zfX11_odds
  refine lt_i (fun J hJ => ?_)
  have fin : J σ = some (-1, σ) := by rw [hJ]
  by_cases c0 : zfX11_noMarket σ = 0
  case neg => rw [if_neg c0]; exact fin
  case pos =>
  rw [if_pos c0]
  by_cases c1 : x < 1
  case pos => rw [if_pos c1]; exact fin
  case neg =>
  rw [if_neg c1]
  by_cases c2 : 10 < x
  case pos => rw [if_pos c2]; exact fin
  case neg =>
  rw [if_neg c2]
  by_cases c3 : zfX11_noPrice y = 0
  case neg => rw [if_neg c3]; exact fin
  case pos =>
  rw [if_pos c3]
  exact absurd ⟨(g_mk hI).1.mp c0, g_pr (a := 1) (b := 10) (by omega) (by omega) c1 c2, g_price.mp c3⟩ hA
theorem odds_G {B : Nat} {x y : Int32} {P : Pm} {rc : Nat} {s σ : Mm} (hI : Ivx B P rc s (zst σ 703 0 0)) (hA : ¬ (0 < pn P ∧ Rok 1 10 x ∧ Rok 0 20 y)) : zfX12_odds x y σ = some (-1, zst σ 703 0 0) := by
  unfold zfX12_odds
  refine lt_i (fun υ hυe => ?_)
  refine lt_i (fun J hJ => ?_)
  rw [← hυe] at hI ⊢
  have hυ := hI
  have fin : J υ = some (-1, υ) := by rw [hJ]
  by_cases c0 : υ 703 24 = 0
  case pos => rw [if_pos c0]; exact fin
  case neg =>
  rw [if_neg c0]
  by_cases c1 : zfX12_isIn x.toInt64 1 10 = 0
  case pos => rw [if_pos c1]; exact fin
  case neg =>
  rw [if_neg c1]
  by_cases c2 : zfX12_isIn y.toInt64 0 20 = 0
  case pos => rw [if_pos c2]; exact fin
  case neg =>
  rw [if_neg c2]
  exact absurd ⟨(Classical.byContradiction (fun h9 => c0 ((g_mk hυ).2.mpr h9))), (Classical.byContradiction (fun h9 => c1 (g_in10.mpr h9))), (Classical.byContradiction (fun h9 => c2 (g_in20.mpr h9)))⟩ hA
theorem q_odds {B : Nat} (hB : B < 800000) (x y : Int32) : Qy B (zfX11_odds x y) (zfX12_odds x y) := by
  refine q_gen (-1) (fun P => 0 < pn P ∧ Rok 1 10 x ∧ Rok 0 20 y) (fun P rc s σ hI hA => odds_F hI hA) (fun P rc s σ hI hA => odds_G hI hA) (fun P rc s σ hI hA => ?_)
  obtain ⟨h0, hx, hy⟩ := hA
  obtain ⟨d, d1, d2, d3⟩ := id hx
  have hB9 : B < 900000 := by omega
  have hs := hI.ks hB9
  have hx2 := (g_rng (a := 1) (b := 10) (by omega) (by omega)).mpr hx
  have hk := hI.2.2.2.2.2.1
  have hw : Wt P rc B s := ⟨hs.2.1, hs.2.2.2.2.1, hs.2.2.1, hs.2.2.2.2.2⟩
  unfold zfX11_odds
  refine ok_lg (fun J _ => ?_)
  rw [if_pos ((g_mk hI).1.mpr h0), if_neg (show ¬ x < 1 from hx2.1), if_neg (show ¬ 10 < x from hx2.2), if_pos (g_price.mpr hy), ok_bd2]
  subst d3
  unfold zfX7_partsFrom
  obtain ⟨h1, h2, h3, ⟨r1, r2, r3, r4, r5⟩, ⟨hS, s4⟩, h6⟩ := id hI
  rw [ok_bd2]
  refine ok_mono (cs_begin h2 h3 r4 hS) (fun a ha => ?_)
  obtain ⟨b1, b2, b3, b4, b5, b6⟩ := ha
  rw [b1, ck_t (show zIsSb 85 = true from zSb_p (j := 0) (by omega))]
  refine ok_lg (fun φ1 e1 => ?_)
  refine ok_lg (fun φ2 e2 => ?_)
  refine ok_lg (fun φ3 e3 => ?_)
  have q3 : ∀ c, c ≠ 79 → φ3 c = a.2 c := fun c hc => by rw [e3, zst_n hc, e2, zst_n hc, e1, zst_n hc]
  have fr3 : FrS σ φ3 := b5.trans ⟨fun c hc => q3 c (by omega), fun k _ => by rw [q3 714 (by omega)], fun k _ => by rw [q3 703 (by omega)]⟩
  rw [ok_bd2]
  refine ok_mono (c_split (pr := y) (r := ix (σ 0 15)) h2 hk.2.2 d2 d 0 RD B s 1000000000 φ3 (by omega) (by unfold RD; omega) (by omega) (by omega) hw (b2.fr (fun c a b => q3 c (by omega))) (b3.of (fun c hc => q3 c (by omega))) (b4.of (fun r hr => ⟨q3 _ (by omega), q3 _ (by omega)⟩)) (by rw [e3, zst_k (by omega), e2, zst_k (by omega), e1, zst_v]) (by rw [e3, zst_k (by omega), e2, zst_v]) (by rw [e3, zst_v]; exact hk.2.1)) (fun b hb => ?_)
  obtain ⟨g1, g2⟩ := hb
  rw [ok_s, ok_s]
  refine ⟨fr3.trans g2.s, fun υ hυ e => ?_⟩
  dsimp only at e ⊢
  unfold zfX12_odds
  refine ok_lg (fun υ' e' => ?_)
  have : υ' = υ := e'.trans e.symm
  subst this
  refine ok_lg (fun J2 _ => ?_)
  rw [if_neg (fun c => (g_mk hυ).2.mp c h0), if_neg (fun c => g_in10.mp c hx), if_neg (fun c => g_in20.mp c hy)]
  refine rq_kept hB9 hυ h0 (fun τ k1 k2 k3 k4 k5 => ?_)
  obtain ⟨p1, p2, p3, p4, p5, p6, p7, p8, p9⟩ := id k1
  refine ok_lg (fun τ1 e1' => ?_)
  have t1 : ∀ c, c ≠ 703 → τ1 c = τ c := fun c hc => by rw [e1', zst_n hc]
  have t7 : ∀ k, k ≠ 67 → τ1 703 k = τ 703 k := fun k hk => by rw [e1', zst_k hk]
  have fr1 : FrS υ' τ1 := k4.trans ⟨fun c hc => t1 c (by omega), fun k _ => by rw [t1 714 (by omega)], fun k hk => t7 k (by omega)⟩
  have M1 : PmR P s τ1 := by
    obtain ⟨m1, m2, m3, m4, m5, m6, m7⟩ := p7
    refine ⟨by rw [t7 24 (by omega)]; exact m1, by rw [t7 25 (by omega)]; exact m2, by rw [t7 41 (by omega)]; exact m3, by rw [t7 42 (by omega)]; exact m4, by rw [t1 710 (by omega)]; exact m5, fun k hk => ?_, fun i hi => ?_⟩
    · rw [t1 708 (by omega), t1 717 (by omega), t1 716 (by omega)]; exact m6 k hk
    · rw [t1 709 (by omega)]; exact m7 i hi
  have hk2 := hυ.2.2.2.2.2.1
  have e33 : τ1 703 33 = nI (ix (σ 0 15)) := by
    rw [fr1.2.2 33 (by omega), ← hk2.1]
    have e0 : υ' 0 15 = σ 0 15 := by rw [e, zst_n (by omega), g2.s.1 0 (by omega), fr3.1 0 (by omega)]
    rw [e0]; exact hk.2.1
  rw [ok_bd]
  refine ok_mono (r_split (r := ix (σ 0 15)) (pr := y) h2 hk.2.2 d RD B s 1000000000 τ1 d2 (by unfold RD; omega) (by omega) (by omega) hw ⟨M1, by rw [t7 43 (by omega)]; exact p8, p9.of (t1 705 (by omega)) (fun r _ => by rw [t1 706 (by omega)]), k2.fr14 (t1 714 (by omega)), e33⟩) (fun φ hφ => ?_)
  obtain ⟨w1, w2⟩ := hφ
  rw [ok_bd]
  refine ok_mono r_putBack (fun ψ hψ => ?_)
  obtain ⟨m1, m2⟩ := hψ
  rw [ok_s]
  refine ⟨?_, fun c hc => ?_, fun k hk => ?_, fun k hk => ?_⟩
  · dsimp only
    rw [m2 703 (by omega), w1, e1', zst_v, g1]; grind
  · dsimp only
    rw [m2 c (by omega), w2.2.2.2 c (by omega)]; exact fr1.1 c hc
  · dsimp only
    rw [m1 k hk, w2.2.2.2 715 (by omega), t1 715 (by omega)]; exact k3 k hk
  · dsimp only
    rw [m2 703 (by omega), w2.2.1 k (by omega) (by omega)]; exact fr1.2.2 k hk
