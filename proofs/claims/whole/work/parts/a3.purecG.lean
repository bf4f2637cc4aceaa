/-! ===== rest: the class fills its rows ===== -/
theorem c_L80 {p n row : Nat} {σ : Mm} {K : Mm → Option Mm} {Q : Mm → Prop} (hp : 0 < p) (hp2 : p ≤ 21) (hn : n ≤ 3) (hr : row < 10000) (hK : ∀ τ, (∀ k, k < n → τ 99 k = nI (loD p (n - 1 - k) row)) → (∀ c, c ≠ 99 → τ c = σ c) → Ok (K τ) Q) :
    Ok (zfX7_fillTakes_L80 K (nI p) NF (nI row) (nI n - 1) σ) Q := by
  refine ok_up (F := fun fu (x : Int32 × Int32 × Mm) => zfX7_fillTakes_L80 K (nI p) fu x.1 x.2.1 x.2.2) n (fun i x => x.1 = nI (row / p ^ i) ∧ x.2.1 = nI (n - i) - 1 ∧ (∀ k, n - i ≤ k → k < n → x.2.2 99 k = nI (loD p (n - 1 - k) row)) ∧ ∀ c, c ≠ 99 → x.2.2 c = σ c) ?_ ?_ 0 NF (nI row, nI n - 1, σ) ⟨by rw [Nat.pow_zero, Nat.div_one], rfl, fun k h1 h2 => by omega, fun _ _ => rfl⟩ (by omega) (by unfold NF; omega)
  · rintro i fu ⟨x, y, τ⟩ hi ⟨hx, hy, g1, g2⟩ hk
    have hx : x = nI (row / p ^ i) := hx
    have hy : y = nI (n - i) - 1 := hy
    have hy2 : y = nI (n - 1 - i) := by rw [hy, show (1 : Int32) = nI 1 from rfl, n_sub (by omega)]; congr 1; omega
    subst hx
    subst hy2
    have g1 : ∀ k, n - i ≤ k → k < n → τ 99 k = nI (loD p (n - 1 - k) row) := g1
    have g2 : ∀ c, c ≠ 99 → τ c = σ c := g2
    have hd : row / p ^ i ≤ row := Nat.div_le_self _ _
    have hp0 : ¬ nI p = 0 := by rw [show (0 : Int32) = nI 0 from rfl, n_eq (by omega) (by omega)]; omega
    show Ok (zfX7_fillTakes_L80 K (nI p) (fu + 1) (nI (row / p ^ i)) (nI (n - 1 - i)) τ) Q
    unfold zfX7_fillTakes_L80
    rw [if_neg (n_nlt0 (by omega)), ck_t hp0, ck_t ((n_in (by omega)).mpr (by omega)), i_mod (by omega) hp (by omega), n_ix (by omega)]
    refine ok_lg (fun τ1 e1 => ?_)
    rw [ck_t hp0, i_div (by omega) hp (by omega)]
    refine ok_lg (fun x2 ex => ?_)
    refine ok_lg (fun y2 ey => ?_)
    refine hk (x2, y2, τ1) ⟨?_, ?_, fun k h1 h2 => ?_, fun c hc => by dsimp only; rw [e1, zst_n hc]; exact g2 c hc⟩
    · dsimp only
      rw [ex, Nat.pow_succ, Nat.div_div_eq_div_mul]
    · dsimp only
      rw [ey, show n - (i + 1) = n - 1 - i by omega]; grind
    · dsimp only
      rw [e1]
      by_cases e : k = n - 1 - i
      · rw [e, zst_v, show n - 1 - (n - 1 - i) = i by omega]; rfl
      · rw [zst_k e]; exact g1 k (by omega) h2
  · rintro fu ⟨x, y, τ⟩ ⟨hx, hy, g1, g2⟩
    have hy : y = nI (n - n) - 1 := hy
    rw [Nat.sub_self] at hy
    subst hy
    show Ok (zfX7_fillTakes_L80 K (nI p) (fu + 1) x (nI 0 - 1) τ) Q
    unfold zfX7_fillTakes_L80
    rw [if_pos (by decide)]
    exact hK τ (fun k hk => g1 k (by omega) hk) g2
theorem c_L130 {n row : Nat} {σ : Mm} {T : Nat → Int32} {K : Mm → Option Mm} {Q : Mm → Prop} (hn : n ≤ 3) (hr : row < 9261) (h3 : σ 3 0 = nI n) (hT : ∀ k, k < n → σ 100 k * σ 99 k = T k) (hK : ∀ τ, (∀ k, k < n → ∀ x, τ (82 + k) x = if x = row then T k else σ (82 + k) x) → (∀ c, (c < 82 ∨ 84 < c) → τ c = σ c) → Ok (K τ) Q) :
    Ok (zfX7_fillTakes_L130 K (nI row) NF 0 σ) Q := by
  refine ok_up (F := fun fu (x : Int32 × Mm) => zfX7_fillTakes_L130 K (nI row) fu x.1 x.2) n (fun i x => x.1 = nI i ∧ (∀ k, k < n → ∀ y, x.2 (82 + k) y = if k < i ∧ y = row then T k else σ (82 + k) y) ∧ ∀ c, (c < 82 ∨ 84 < c) → x.2 c = σ c) ?_ ?_ 0 NF (0, σ) ⟨rfl, fun k _ y => by rw [if_neg (by omega)], fun _ _ => rfl⟩ (by omega) (by unfold NF; omega)
  · rintro i fu ⟨y, τ⟩ hi ⟨hy, g1, g2⟩ hk
    have hy : y = nI i := hy
    subst hy
    have g1 : ∀ k, k < n → ∀ y, τ (82 + k) y = if k < i ∧ y = row then T k else σ (82 + k) y := g1
    have g2 : ∀ c, (c < 82 ∨ 84 < c) → τ c = σ c := g2
    show Ok (zfX7_fillTakes_L130 K (nI row) (fu + 1) (nI i) τ) Q
    unfold zfX7_fillTakes_L130
    have hin6 : inb (nI i) 6 := (n_in (by omega)).mpr (by omega)
    rw [g2 3 (by omega), h3, if_neg (by rw [n_le (by omega) (by omega)]; omega), if_neg (by rw [show (3 : Int32) = nI 3 from rfl, n_le (by omega) (by omega)]; omega), ck_t ((n_in (by omega)).mpr (by omega)), ck_t hin6, ck_t hin6, ck_t ((n_in (by omega)).mpr (by omega)), n_ix (by omega), n_ix (by omega), g2 100 (by omega), g2 99 (by omega), hT i hi]
    refine ok_lg (fun τ1 e1 => ?_)
    refine ok_lg (fun y2 ey => ?_)
    rw [show nI i + 1 = nI (i + 1) from n_add _ 1] at ey
    refine hk (y2, τ1) ⟨ey, fun k hk2 y => ?_, fun c hc => by dsimp only; rw [e1, zst_n (by omega)]; exact g2 c hc⟩
    dsimp only
    rw [e1, zst_a]
    by_cases e : 82 + k = 82 + i ∧ y = row
    · have : k = i := by omega
      subst this
      rw [if_pos e, if_pos ⟨by omega, e.2⟩]
    · rw [if_neg e, g1 k hk2 y]
      by_cases e2 : k < i ∧ y = row
      · rw [if_pos e2, if_pos ⟨by omega, e2.2⟩]
      · rw [if_neg e2, if_neg (by omega)]
  · rintro fu ⟨y, τ⟩ ⟨hy, g1, g2⟩
    have hy : y = nI n := hy
    subst hy
    have g1 : ∀ k, k < n → ∀ y, τ (82 + k) y = if k < n ∧ y = row then T k else σ (82 + k) y := g1
    have g2 : ∀ c, (c < 82 ∨ 84 < c) → τ c = σ c := g2
    show Ok (zfX7_fillTakes_L130 K (nI row) (fu + 1) (nI n) τ) Q
    unfold zfX7_fillTakes_L130
    rw [g2 3 (by omega), h3, if_pos (Int32.le_refl _)]
    refine hK τ (fun k hk2 y => ?_) g2
    rw [g1 k hk2 y]
    by_cases e : y = row
    · rw [if_pos ⟨hk2, e⟩, if_pos e]
    · rw [if_neg (fun h => e h.2), if_neg e]
theorem rF_k {p n row k : Nat} (h : k < n) : rF p n row k = nI (loD p (n - 1 - k) row) := if_pos h
theorem c_fill {B : Nat} {P : Pm} {rc p : Nat} {s σ : Mm} (hB : B < 900000) (hI : Ivx B P rc s σ) (h0 : 0 < pn P) (h3 : pn P ≤ 3) (hp : s 0 0 = nI (p - 1)) (hp0 : 0 < p) (hp21 : p ≤ 21) :
    Ok (zfX7_fillTakes (nI (p ^ pn P)) (nI p) σ) (fun τ => (∀ row, row < p ^ pn P → ∀ k, k < pn P → τ (82 + k) row = tkF P s (rF p (pn P) row) k) ∧ FrS σ τ) := by
  obtain ⟨h1, h2, h3', ⟨r1, r2, r3, r4, r5⟩, ⟨hS, s4⟩, h6⟩ := id hI
  obtain ⟨s1, s2, s3, t4, t5, t6⟩ := id hS
  obtain ⟨p1, p2, p3, p4, p5, p6, p7, p8, p9⟩ := id h2.1
  obtain ⟨w1, w2, w3, w4, w5, w6, w7⟩ := id s3
  have hN := h2.2.2.1
  have hpw := pow_rows hp21 h3
  unfold zfX7_fillTakes
  rw [ok_bd2]
  refine ok_mono (cs_begin h2 h3' r4 hS) (fun a ha => ?_)
  obtain ⟨b1, ⟨a1, a2, a3, a4, a5⟩, ⟨m1, m2, m3, m4, m5, m6, m7⟩, b4, b5, b6⟩ := ha
  rw [b1, ck_t (show zIsSb 85 = true from zSb_p (j := 0) (by omega)), if_pos (show (1 : Int32) ≤ nI p by rw [show (1 : Int32) = nI 1 from rfl, n_le (by omega) (by omega)]; omega), ok_bd2]
  refine ok_mono (c_open (q := 85) (N := pN P) (m := pm P) (br := pbr P) (ma := pma P) (go := gd0 s) (wt := wt0 s) (co := pco P) (f := 0) (by omega) (by omega) p4 p2 m5 m2 (fun k hk => ⟨by rw [a4 1 k (by omega) (by omega)]; exact (w3 k hk).1, (w3 k hk).2⟩) (fun k hk => ⟨(m6 k hk).1, by have := (p5 k hk).1; omega, (m6 k hk).2.1⟩) (fun k hk => by rw [a5 k hk]; unfold wt0; rw [if_pos hk]; exact (w5 k hk).1) (fun i hi => (m7 i hi).2.1)) (fun x hx => ?_)
  obtain ⟨e1, e2, e3, e4, e5, e6⟩ := hx
  obtain ⟨bu, φ⟩ := x
  dsimp only at e1 e2 e3 e4 e5 e6 ⊢
  have oG : ∀ k, k < pN P → φ 86 k = nI (dG P s k) := fun k hk => by rw [(e2 k hk).1]; unfold dG; rw [if_pos hk]
  have oA : AgS 85 φ (fun i => φ (85 + i)) := ⟨fun _ _ => rfl, rfl, rfl, fun _ _ _ _ => rfl, fun _ _ => rfl⟩
  have frφ : FrS σ φ := b5.trans ⟨fun c hc => e6 c (by omega) (by omega) (by omega) (by omega) (by omega), fun k _ => by rw [e6 714 (by omega) (by omega) (by omega) (by omega) (by omega)], fun k _ => by rw [e6 703 (by omega) (by omega) (by omega) (by omega) (by omega)]⟩
  have f85 : φ 85 = a.2 85 := e6 85 (by omega) (by omega) (by omega) (by omega) (by omega)
  have lowφ : ∀ c, (3 ≤ c ∧ c ≤ 10 ∨ c = 37) → φ c = a.2 c := fun c hc => e6 c (by omega) (by omega) (by omega) (by omega) (by omega)
  refine ok_lg (fun K hK => ?_)
  have hdG := dG_le (P := P) s3
  have hdw := dw_le (P := P) (f := 0) h2.1 s3
  refine ok_up (F := fun fu (x : Int32 × Mm) => zfX7_fillTakes_L41 (nI (p ^ pn P)) K 85 (nI p) fu x.1 x.2) (p ^ pn P) (fun r x => x.1 = nI r ∧ (∀ r', r' < r → ∀ k, k < pn P → x.2 (82 + k) r' = tkF P s (rF p (pn P) r') k) ∧ (∀ c, (c < 37 ∨ 37 < c ∧ c < 40 ∨ 40 < c ∧ c < 82 ∨ 84 < c ∧ c < 95 ∨ 104 < c) → x.2 c = φ c) ∧ ∀ k, k ≠ 8 → x.2 37 k = φ 37 k) ?_ ?_ 0 NF (0, φ) ⟨rfl, fun r h => absurd h (Nat.not_lt_zero r), fun _ _ => rfl, fun _ _ => rfl⟩ (by omega) (by unfold NF; omega)
  · rintro r fu ⟨y, τ⟩ hr ⟨hy, g1, g2, g3⟩ hk
    have hy : y = nI r := hy
    subst hy
    have g1 : ∀ r', r' < r → ∀ k, k < pn P → τ (82 + k) r' = tkF P s (rF p (pn P) r') k := g1
    have g2 : ∀ c, (c < 37 ∨ 37 < c ∧ c < 40 ∨ 40 < c ∧ c < 82 ∨ 84 < c ∧ c < 95 ∨ 104 < c) → τ c = φ c := g2
    have g3 : ∀ k, k ≠ 8 → τ 37 k = φ 37 k := g3
    show Ok (zfX7_fillTakes_L41 (nI (p ^ pn P)) K 85 (nI p) (fu + 1) (nI r) τ) _
    unfold zfX7_fillTakes_L41
    rw [if_neg (by rw [n_le (by omega) (by omega)]; omega), if_neg (by rw [show (9261 : Int32) = nI 9261 from rfl, n_le (by omega) (by omega)]; omega), ok_bd]
    refine ok_mono (c_copy (q0 := 95) (q1 := 85) (by omega) (oA.fr (fun c x1 x2 => g2 c (by omega)))) (fun τ1 h1 => ?_)
    obtain ⟨c1, c2⟩ := h1
    obtain ⟨o1, o2, o3, o4, o5⟩ := c1
    have hn3 : τ1 3 0 = nI (pn P) := by rw [c2 3 (by omega), g2 3 (by omega), lowφ 3 (by omega)]; exact m1
    rw [hn3, show (3 : Int32) = nI 3 from rfl, n_zmin (by omega) (by omega), Nat.min_eq_left h3]
    refine ok_lg (fun x7 hx7 => ?_)
    subst hx7
    refine ok_lg (fun K109 hK109 => ?_)
    refine c_L80 hp0 hp21 h3 (by omega) (fun τ2 d1 d2 => ?_)
    simp only [hK109]
    have q2 : ∀ c, (c < 37 ∨ 37 < c ∧ c < 40 ∨ 40 < c ∧ c < 82 ∨ 84 < c ∧ c < 95 ∨ 104 < c) → τ2 c = φ c := fun c hc => by rw [d2 c (by omega), c2 c (by omega)]; exact g2 c hc
    have q37 : ∀ k, k ≠ 8 → τ2 37 k = φ 37 k := fun k hk2 => by rw [d2 37 (by omega), c2 37 (by omega)]; exact g3 k hk2
    have ask : ∀ k, k < pN P → τ2 99 k = dA (tellP P (rF p (pn P) r)) 0 s k := fun k hk2 => by
      have hto : pto (tellP P (rF p (pn P) r)) k = nI (loD p (pn P - 1 - k) r) := rF_k (by omega)
      have hlt := loD_lt (p := p) (i := pn P - 1 - k) (row := r) hp0
      rw [d1 k (by omega), dA_to (by rw [hto]; exact n_ne1 (by omega)), hto]
    have v95 : ∀ k, k < 4 → τ2 95 k = s 0 k := fun k hk2 => by rw [d2 95 (by omega), o1 k hk2]; show φ (85 + 0) k = _; rw [f85]; exact a1 k hk2
    rw [ok_bd]
    refine ok_mono (c_lineUp (q := 95) (N := pN P) (hd := hob (s 0 3)) (g0 := dG P s) (ask := dA (tellP P (rF p (pn P) r)) 0 s) (σ := τ2) (by omega) p4 (by rw [q37 5 (by omega), lowφ 37 (by omega)]; exact m5) hdG (fun k hk2 => by rw [d2 96 (by omega), o4 1 k (by omega) (by omega)]; exact oG k hk2) ask (fun k => by rw [v95 3 (by omega)])) (fun τ3 h3 => ?_)
    obtain ⟨⟨L, Ln, hL⟩, l1, l2⟩ := h3
    have l95 : ∀ c, 95 ≤ c → τ3 c = τ2 c := fun c hc => l1 c (by omega) (by omega)
    have hSC : SC (pN P) (dG P s) (dA (tellP P (rF p (pn P) r)) 0 s) (fun k => τ3 98 k) 95 τ3 τ3 (fun _ => 0, s 0 2, dw P 0 s, s 8) := by
      refine ⟨fun k hk2 => ?_, fun k hk2 => ?_, fun k hk2 => ?_, ?_, fun k hk2 => ?_, fun i hi => ?_, fun _ _ _ _ _ _ _ => rfl, fun _ _ => rfl, fun _ _ => ⟨rfl, rfl, rfl⟩, fun _ _ => rfl, fun _ _ => rfl, fun _ => Nat.zero_le _⟩
      · rw [l95 96 (by omega), d2 96 (by omega), o4 1 k (by omega) (by omega)]; exact oG k hk2
      · rw [l95 100 (by omega), d2 100 (by omega), o4 5 k (by omega) (by omega)]; exact (e2 k hk2).2.2.1
      · show τ3 98 k = τ3 98 k + nI 0 * _
        rw [n_0]; grind
      · rw [l95 95 (by omega)]; exact v95 2 (by omega)
      · rw [l95 102 (by omega), d2 102 (by omega), o5 k hk2]; exact e4 k hk2
      · rw [l95 103 (by omega), d2 103 (by omega), o4 8 i (by omega) hi]
        show φ 93 i = s 8 i
        rw [e6 93 (by omega) (by omega) (by omega) (by omega) (by omega)]; exact a4 8 i (by omega) hi
    rw [ok_bd]
    refine ok_mono (c_sell (q := 95) (m := pm P) (wo := pwo P) (w := pw P) (by omega) p4 hdG hL (fun k hk2 => by rw [l95 99 (by omega)]; exact ask k hk2) p2 (by rw [l1 3 (by omega) (by omega), q2 3 (by omega), lowφ 3 (by omega)]; exact m2) (fun i hi => by rw [l1 7 (by omega) (by omega), q2 7 (by omega), lowφ 7 (by omega)]; exact (m7 i hi).1) (fun k hk2 => ⟨by rw [l1 10 (by omega) (by omega), q2 10 (by omega), lowφ 10 (by omega)]; exact (m7 k hk2).2.2.2, (p6 k hk2).2.2.1⟩) hSC (fun k => by have := hdw k; dsimp only; omega)) (fun τ4 h4 => ?_)
    obtain ⟨x1, x2, x3, x4, x5, x6, x7, x8, x9, x10, x11, x12⟩ := h4
    refine ok_lg (fun K181 hK181 => ?_)
    have q4 : ∀ c, (c < 37 ∨ 37 < c ∧ c < 40 ∨ 40 < c ∧ c < 82 ∨ 84 < c ∧ c < 95 ∨ 104 < c) → τ4 c = φ c := fun c hc => by rw [x7 c (by omega) (by omega) (by omega) (by omega) (by omega) (by omega), l1 c (by omega) (by omega)]; exact q2 c hc
    refine c_L130 (T := tkF P s (rF p (pn P) r)) h3 (by omega) (by rw [q4 3 (by omega), lowφ 3 (by omega)]; exact m1) (fun k hk2 => ?_) (fun τ5 y1 y2 => ?_)
    · rw [x2 k (by omega), x7 99 (by omega) (by omega) (by omega) (by omega) (by omega) (by omega), l95 99 (by omega), d1 k hk2, ← rF_k hk2]
      rfl
    · simp only [hK181]
      refine ok_lg (fun y5 ey => ?_)
      rw [show nI r + 1 = nI (r + 1) from n_add _ 1] at ey
      refine hk (y5, τ5) ⟨ey, fun r' hr' k hk2 => ?_, fun c hc => by dsimp only; rw [y2 c (by omega)]; exact q4 c hc, fun k hk2 => by dsimp only; rw [y2 37 (by omega), x7 37 (by omega) (by omega) (by omega) (by omega) (by omega) (by omega), l2 k hk2]; exact q37 k hk2⟩
      dsimp only
      rw [y1 k hk2 r']
      by_cases e : r' = r
      · rw [if_pos e, e]
      · rw [if_neg e, x7 _ (by omega) (by omega) (by omega) (by omega) (by omega) (by omega), l1 _ (by omega) (by omega), d2 _ (by omega), c2 _ (by omega)]
        exact g1 r' (by omega) k hk2
  · rintro fu ⟨y, τ⟩ ⟨hy, g1, g2, g3⟩
    have hy : y = nI (p ^ pn P) := hy
    subst hy
    show Ok (zfX7_fillTakes_L41 (nI (p ^ pn P)) K 85 (nI p) (fu + 1) (nI (p ^ pn P)) τ) _
    unfold zfX7_fillTakes_L41
    rw [if_pos (Int32.le_refl _)]
    simp only [hK]
    rw [ok_s]
    have g2 : ∀ c, (c < 37 ∨ 37 < c ∧ c < 40 ∨ 40 < c ∧ c < 82 ∨ 84 < c ∧ c < 95 ∨ 104 < c) → τ c = φ c := g2
    exact ⟨g1, frφ.trans ⟨fun c hc => g2 c (by omega), fun k _ => by rw [g2 714 (by omega)], fun k _ => by rw [g2 703 (by omega)]⟩⟩
