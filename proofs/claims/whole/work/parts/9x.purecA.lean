/-! ===== best: said once ===== -/
def bfo (g : Nat → Int32 × Int32 → Int32 × Int32) : Nat → Int32 × Int32 → Int32 × Int32
  | 0, r => r
  | n + 1, r => g n (bfo g n r)
/-- of all askings for so many days the best: the row, the gain -/
noncomputable def bst (P : Pm) (s0 : Mm) (i : Nat) : Nat → Mm → Int32 → Int32 × Int32 → Int32 × Int32
  | 0, t, dg, r => if r.1 = -1 then (dg, t 3 i - s0 3 i) else if t 3 i - s0 3 i ≤ r.2 then r else (dg, t 3 i - s0 3 i)
  | l + 1, t, dg, r => bfo (fun j r => bst P s0 i l (dayS (tellP P (toF i j)) 0 t) (dg * 100 + nI j) r) (ix (t 0 0) + 1) r
theorem bfo_1 {g : Nat → Int32 × Int32 → Int32 × Int32} {a b : Int32 × Int32} (h : g 0 a = g 0 b) : ∀ n, bfo g (n + 1) a = bfo g (n + 1) b := by
  intro n
  induction n with
  | zero => exact h
  | succ n ih => show g (n + 1) (bfo g (n + 1) a) = g (n + 1) (bfo g (n + 1) b); rw [ih]
theorem bst_1 {P : Pm} {s0 : Mm} {i : Nat} {a b : Int32} : ∀ l t dg, bst P s0 i l t dg (-1, a) = bst P s0 i l t dg (-1, b) := by
  intro l
  induction l with
  | zero => intro t dg; unfold bst; rw [if_pos rfl, if_pos rfl]
  | succ l ih => intro t dg; unfold bst; exact bfo_1 (ih _ _) _
theorem toF_ok {i j : Nat} (hj : j ≤ 20) (k : Nat) : toF i j k = -1 ∨ sm 20 (toF i j k) := by
  unfold toF
  by_cases e : k = i
  · rw [if_pos e]; exact Or.inr (sm_n hj (by omega))
  · rw [if_neg e]; exact Or.inl rfl
/-- a state by which days go -/
def Wt (P : Pm) (rc B : Nat) (t : Mm) : Prop := WFs P t ∧ RuS P rc t ∧ sm B (t 0 1) ∧ ∀ k, pn P ≤ k → k < 6 → ¬ hob (t 0 3) k
theorem Wt.day {P : Pm} {rc B : Nat} {t : Mm} {f : Nat → Int32} {x : Int32} (hP : IvP P) (hf : ∀ k, f k = -1 ∨ sm 20 (f k)) (h : Wt P rc B t) (hB : B < 1000000) : Wt P rc (B + 1) (dayS (tellP P f) x t) := by
  obtain ⟨h1, h2, h3, h4⟩ := h
  have w : WFs (tellP P f) t := h1
  have := dayS_wf (f := x) (tellP_w hP.1 hP.2.2.1 (fun k _ => hf k)) w h3 hB
  have r : RuS (tellP P f) rc t := h2
  have w2 : WFs P (dayS (tellP P f) x t) := this.1
  have r2 : RuS P rc (dayS (tellP P f) x t) := r.day (f := x)
  exact ⟨w2, r2, this.2, by rw [dayS_3]; exact h4⟩
theorem PmC.to {P : Pm} {f g : Nat → Int32} {σ τ : Mm} (hN : pN P = pn P) (h : PmC (tellP P f) σ) (f3 : ∀ c, 3 ≤ c → c ≤ 10 → τ c = σ c) (f7 : τ 37 4 = σ 37 4 ∧ τ 37 5 = σ 37 5) (h38 : ∀ k, k < pn P → τ 38 k = g k) : PmC (tellP P g) τ := by
  obtain ⟨h1, h2, h3, h4, h5, h6, h7⟩ := h
  refine ⟨by rw [f3 3 (by omega) (by omega)]; exact h1, by rw [f3 3 (by omega) (by omega)]; exact h2, by rw [f3 3 (by omega) (by omega)]; exact h3, by rw [f7.1]; exact h4, by rw [f7.2]; exact h5, fun k hk => ?_, fun i hi => ?_⟩
  · have hk : k < pN P := hk
    rw [f3 4 (by omega) (by omega), f3 5 (by omega) (by omega), f3 6 (by omega) (by omega)]
    obtain ⟨a, b, c, d⟩ := h6 k hk
    exact ⟨a, b, c, h38 k (by omega)⟩
  · rw [f3 7 (by omega) (by omega), f3 8 (by omega) (by omega), f3 9 (by omega) (by omega), f3 10 (by omega) (by omega)]; exact h7 i hi
/-! ===== best: the class ===== -/
/-- what trying askings from a day on may change -/
def FrB (day : Nat) (σ τ : Mm) : Prop := (∀ k, k ≠ 6 → k ≠ 8 → τ 37 k = σ 37 k) ∧ (∀ k, k ≠ 8 → k ≠ 9 → τ 79 k = σ 79 k) ∧ ∀ c, (c < 38 ∨ 42 < c ∧ c < 95 + 10 * day ∨ 694 < c) → c ≠ 37 → c ≠ 79 → ¬ stk c → τ c = σ c
theorem FrB.refl {day : Nat} {σ : Mm} : FrB day σ σ := ⟨fun _ _ _ => rfl, fun _ _ _ => rfl, fun _ _ _ _ _ => rfl⟩
theorem FrB.trans {day : Nat} {σ τ υ : Mm} (h : FrB day σ τ) (h2 : FrB day τ υ) : FrB day σ υ := ⟨fun k a b => (h2.1 k a b).trans (h.1 k a b), fun k a b => (h2.2.1 k a b).trans (h.2.1 k a b), fun c a1 a2 a3 a4 => (h2.2.2 c a1 a2 a3 a4).trans (h.2.2 c a1 a2 a3 a4)⟩
theorem FrB.up {d e : Nat} {σ τ : Mm} (h : FrB e σ τ) (hd : d ≤ e) : FrB d σ τ := ⟨h.1, h.2.1, fun c a1 a2 a3 a4 => h.2.2 c (by omega) a2 a3 a4⟩
theorem FrB.c {day : Nat} {σ τ : Mm} (h : FrB day σ τ) {c : Nat} (hc : c < 12 ∨ 27 ≤ c ∧ c < 37 ∨ 42 < c ∧ c < 79 ∨ 79 < c ∧ c < 95 + 10 * day ∨ 694 < c) : τ c = σ c := h.2.2 c (by omega) (by omega) (by omega) (stk_n (by omega))
theorem FrB.s {day : Nat} {σ τ : Mm} (h : FrB day σ τ) : FrS σ τ := by
  refine ⟨fun c hc => ?_, fun k _ => by rw [h.c (by omega)], fun k _ => by rw [h.c (by omega)]⟩
  by_cases e : 12 ≤ c ∧ c < 27
  · exact h.2.2 c (by omega) (by omega) (by omega) (by rcases hc with h | h | h | h | h | h | h | h | h <;> first | exact h.2.2 | omega)
  · exact h.2.2 c (by omega) (by omega) (by omega) (stk_n (by omega))
/-- what trying askings goes by, in the class -/
def Cb (P : Pm) (rc i n : Nat) (s0 σ : Mm) : Prop := (∃ f, PmC (tellP P f) σ) ∧ RuC P rc σ ∧ (∀ k, k < pn P → k ≠ i → σ 38 k = -1) ∧ σ 79 6 = nI i ∧ σ 79 7 = nI n ∧ ∀ k, k < 6 → σ 30 k = s0 3 k
theorem Cb.fr {P : Pm} {rc i n day : Nat} {s0 σ τ : Mm} (hN : pN P = pn P) (hr : rc ≤ 5) (h : Cb P rc i n s0 σ) (f : FrB day σ τ) (h38 : ∀ k, k < pn P → k ≠ i → τ 38 k = -1) : Cb P rc i n s0 τ := by
  obtain ⟨⟨g, h1⟩, h2, h3, h4, h5, h6⟩ := h
  refine ⟨⟨fun k => τ 38 k, h1.to hN (fun c a b => f.c (by omega)) ⟨f.1 4 (by omega) (by omega), f.1 5 (by omega) (by omega)⟩ (fun _ _ => rfl)⟩, h2.of (fun r hr => ⟨f.2.2 _ (by omega) (by omega) (by omega) (stk_n (by omega)), f.2.2 _ (by omega) (by omega) (by omega) (stk_n (by omega))⟩), h38, by rw [f.2.1 6 (by omega) (by omega)]; exact h4, by rw [f.2.1 7 (by omega) (by omega)]; exact h5, fun k hk => by rw [f.c (by omega)]; exact h6 k hk⟩
theorem c_try {P : Pm} {rc i n : Nat} {s0 : Mm} (hP : IvP P) (hi : i < pn P) (hn : n ≤ 3) : ∀ l day dd B t dg σ, day + l = n → l < dd → B + l < 900000 → Wt P rc B t → AgS (85 + 10 * day) σ t → Cb P rc i n s0 σ →
    Ok (zfX7_tryAskings dd (nI day) dg σ) (fun τ => (τ 79 8, τ 79 9) = bst P s0 i l t dg (σ 79 8, σ 79 9) ∧ FrB day σ τ ∧ ∀ k, k < pn P → k ≠ i → τ 38 k = -1) := by
  have hn5 := hP.1.1
  intro l
  induction l with
  | zero =>
    intro day dd B t dg σ hd hl hB hw hA hC
    obtain ⟨dd, rfl⟩ : ∃ e, dd = e + 1 := ⟨dd - 1, by omega⟩
    obtain ⟨⟨f, h1⟩, h2, h3, h4, h5, h6⟩ := id hC
    unfold zfX7_tryAskings
    have hin : inb (nI day) 61 := (n_in (by omega)).mpr (by omega)
    have hin6 : inb (nI i) 6 := (n_in (by omega)).mpr (by omega)
    rw [if_neg (n_nlt0 (by omega)), if_neg (by rw [show (3 : Int32) = nI 3 from rfl, n_lt (by omega) (by omega)]; omega), if_neg (by rw [show (61 : Int32) = nI 61 from rfl, n_le (by omega) (by omega)]; omega), ck_t hin, h4, if_neg (n_nlt0 (by omega)), if_pos (by rw [show (5 : Int32) = nI 5 from rfl, n_lt (by omega) (by omega)]; omega), ck_t hin, h5, if_pos (by rw [show day = n by omega]), ck_t hin6, ck_t hin6, n_ix (by omega), n_ix (by omega), hA.2.2.2.1 3 i (by omega) (by omega), h6 i (by omega)]
    refine ok_lg (fun x hx => ?_)
    refine ok_lg (fun J hJ => ?_)
    have go : bst P s0 i 0 t dg (σ 79 8, σ 79 9) = (dg, x) → Ok (J σ) (fun τ => (τ 79 8, τ 79 9) = bst P s0 i 0 t dg (σ 79 8, σ 79 9) ∧ FrB day σ τ ∧ ∀ k, k < pn P → k ≠ i → τ 38 k = -1) := fun h => by
      simp only [hJ]
      refine ok_lg (fun φ1 e1 => ?_)
      refine ok_lg (fun φ2 e2 => ?_)
      rw [ok_s, h]
      have q : ∀ c, c ≠ 79 → φ2 c = σ c := fun c hc => by rw [e2, zst_n hc, e1, zst_n hc]
      refine ⟨by rw [e2, zst_k (by omega), zst_v, e1, zst_v], ⟨fun k _ _ => by rw [q 37 (by omega)], fun k a b => by rw [e2, zst_k b, e1, zst_k a], fun c _ _ a _ => q c a⟩, fun k x1 x2 => by rw [q 38 (by omega)]; exact h3 k x1 x2⟩
    have un : bst P s0 i 0 t dg (σ 79 8, σ 79 9) = if σ 79 8 = -1 then (dg, x) else if x ≤ σ 79 9 then (σ 79 8, σ 79 9) else (dg, x) := by rw [hx]; rfl
    by_cases c1 : σ 79 8 = -1
    · rw [if_pos c1]; exact go (by rw [un, if_pos c1])
    · rw [if_neg c1]
      by_cases c2 : x ≤ σ 79 9
      · rw [if_pos c2, ok_s]
        exact ⟨by rw [un, if_neg c1, if_pos c2], FrB.refl, h3⟩
      · rw [if_neg c2]; exact go (by rw [un, if_neg c1, if_neg c2])
  | succ l ih =>
    intro day dd B t dg σ hd hl hB hw hA hC
    obtain ⟨dd, rfl⟩ : ∃ e, dd = e + 1 := ⟨dd - 1, by omega⟩
    obtain ⟨⟨f, h1⟩, h2, h3, h4, h5, h6⟩ := id hC
    have hb := hw.1.1
    unfold zfX7_tryAskings
    have hin : inb (nI day) 61 := (n_in (by omega)).mpr (by omega)
    have hin6 : inb (nI i) 6 := (n_in (by omega)).mpr (by omega)
    rw [if_neg (n_nlt0 (by omega)), if_neg (by rw [show (3 : Int32) = nI 3 from rfl, n_lt (by omega) (by omega)]; omega), if_neg (by rw [show (61 : Int32) = nI 61 from rfl, n_le (by omega) (by omega)]; omega), ck_t hin, h4, if_neg (n_nlt0 (by omega)), if_pos (by rw [show (5 : Int32) = nI 5 from rfl, n_lt (by omega) (by omega)]; omega), ck_t hin, h5, if_neg (by rw [n_eq (by omega) (by omega)]; omega)]
    refine ok_lg (fun K hK => ?_)
    generalize hg : (fun (j : Nat) (r : Int32 × Int32) => bst P s0 i l (dayS (tellP P (toF i j)) 0 t) (dg * 100 + nI j) r) = g
    have un : bst P s0 i (l + 1) t dg (σ 79 8, σ 79 9) = bfo g (ix (t 0 0) + 1) (σ 79 8, σ 79 9) := by rw [← hg]; rfl
    have e0 : ∀ τ, FrB day σ τ → τ (85 + 10 * ix (nI day)) 0 = nI (ix (t 0 0)) := fun τ f => by rw [n_ix (by omega), f.c (by omega), hA.1 0 (by omega)]; exact hb.1
    refine ok_up (F := fun fu (x : Int32 × Mm) => zfX7_tryAskings_L114 (nI day) K (zfX7_tryAskings dd) dg fu x.1 x.2) (ix (t 0 0) + 1) (fun j x => x.1 = nI j ∧ (x.2 79 8, x.2 79 9) = bfo g j (σ 79 8, σ 79 9) ∧ FrB day σ x.2 ∧ ∀ k, k < pn P → k ≠ i → x.2 38 k = -1) ?_ ?_ 0 NF (0, σ) ⟨rfl, rfl, FrB.refl, h3⟩ (by omega) (by unfold NF; have := hb.2; omega)
    · rintro j fu ⟨y, τ⟩ hj ⟨hy, g1, g2, g3⟩ hk
      have hy : y = nI j := hy
      subst hy
      have g1 : (τ 79 8, τ 79 9) = bfo g j (σ 79 8, σ 79 9) := g1
      have g2 : FrB day σ τ := g2
      have g3 : ∀ k, k < pn P → k ≠ i → τ 38 k = -1 := g3
      have hj20 : j ≤ 20 := by have := hb.2; omega
      show Ok (zfX7_tryAskings_L114 (nI day) K (zfX7_tryAskings dd) dg (fu + 1) (nI j) τ) _
      unfold zfX7_tryAskings_L114
      have cτ := hC.fr hP.2.2.1 hw.2.1.1 g2 g3
      obtain ⟨⟨fτ, k1⟩, k2, k3, k4, k5, k6⟩ := id cτ
      rw [e0 τ g2, if_neg (by have := hb.2; rw [n_lt (by omega) (by omega)]; omega), k4, ck_t hin6, n_ix (by omega)]
      refine ok_lg (fun τ1 e1 => ?_)
      have q1 : ∀ c, c ≠ 38 → τ1 c = τ c := fun c hc => by rw [e1, zst_n hc]
      have C1 : PmC (tellP P (toF i j)) τ1 := k1.to hP.2.2.1 (fun c a b => q1 c (by omega)) ⟨by rw [q1 37 (by omega)], by rw [q1 37 (by omega)]⟩ (fun k hk2 => by
        rw [e1]
        unfold toF
        by_cases e : k = i
        · rw [if_pos e, e, zst_v]
        · rw [if_neg e, zst_k e]; exact g3 k hk2 e)
      have R1 : RuC (tellP P (toF i j)) rc τ1 := by
        have : RuC P rc τ1 := k2.of (fun r hr => by have := hw.2.1.1; exact ⟨q1 _ (by omega), q1 _ (by omega)⟩)
        exact this
      have wP := tellP_w hP.1 hP.2.2.1 (fun k _ => toF_ok (i := i) hj20 k)
      have wS : WFs (tellP P (toF i j)) t := hw.1
      have wR : RuS (tellP P (toF i j)) rc t := hw.2.1
      rw [ok_bd2]
      refine ok_mono (c_next (f := 0) (by omega) wP wS wR ((hA.fr (fun c a b => g2.c (by omega))).fr (fun c a b => q1 c (by omega))) C1 R1) (fun b hb2 => ?_)
      obtain ⟨d1, d2, d3⟩ := hb2
      rw [d1, ck_t (zSb_p (by omega)), ok_bd, show nI day + 1 = nI (day + 1) from n_add _ 1]
      have fr1 : FrB day σ b.2 := g2.trans ⟨fun k a b => by rw [d3.1 k a b, q1 37 (by omega)], fun k _ _ => by rw [d3.c (by omega), q1 79 (by omega)], fun c a1 a2 a3 a4 => by rw [d3.2 c (by omega) (by omega) a2 a4, q1 c (by omega)]⟩
      have h38 : ∀ k, k < pn P → k ≠ i → b.2 38 k = -1 := fun k a1 a2 => by rw [d3.c (by omega), e1, zst_k a2]; exact g3 k a1 a2
      have wt : Wt P rc (B + 1) (dayS (tellP P (toF i j)) 0 t) := hw.day hP (fun k => toF_ok hj20 k) (by omega)
      refine ok_mono (ih (day + 1) dd (B + 1) _ (dg * 100 + nI j) b.2 (by omega) (by omega) (by omega) wt d2 (hC.fr hP.2.2.1 hw.2.1.1 fr1 h38)) (fun φ hφ => ?_)
      obtain ⟨b1, b2, b3⟩ := hφ
      refine ok_lg (fun y2 ey => ?_)
      rw [show nI j + 1 = nI (j + 1) from n_add _ 1] at ey
      refine hk (y2, φ) ⟨ey, ?_, fr1.trans (b2.up (by omega)), b3⟩
      dsimp only
      rw [b1]
      have e79 : (b.2 79 8, b.2 79 9) = (τ 79 8, τ 79 9) := by rw [d3.c (by omega), q1 79 (by omega)]
      rw [e79, g1, ← hg]
      rfl
    · rintro fu ⟨y, τ⟩ ⟨hy, g1, g2, g3⟩
      have hy : y = nI (ix (t 0 0) + 1) := hy
      subst hy
      have g1 : (τ 79 8, τ 79 9) = bfo g (ix (t 0 0) + 1) (σ 79 8, σ 79 9) := g1
      have g2 : FrB day σ τ := g2
      show Ok (zfX7_tryAskings_L114 (nI day) K (zfX7_tryAskings dd) dg (fu + 1) (nI (ix (t 0 0) + 1)) τ) _
      unfold zfX7_tryAskings_L114
      rw [e0 τ g2, if_pos (by have := hb.2; rw [n_lt (by omega) (by omega)]; omega)]
      simp only [hK]
      rw [ok_s, un]
      exact ⟨g1, g2, g3⟩
