/-! ===== the class lines up who may sell ===== -/
theorem LnOk.zero {hd : Nat → Prop} {g0 : Nat → Nat} {ask : Nat → Int32} {q : Nat} {σ : Mm} (h : σ 37 8 = 0) : LnOk 0 hd g0 ask q σ 0 (fun k => k) :=
  ⟨Nat.le_refl _, h, fun i hi => absurd hi (Nat.not_lt_zero i), fun i j _ hj => absurd hj (Nat.not_lt_zero j), fun k hk => absurd hk (Nat.not_lt_zero k)⟩
theorem c_hold {q k : Nat} {σ : Mm} : (zfX8_isHolding q (nI k) σ = 0) ↔ ¬ hob (σ q 3) k := by
  unfold zfX8_isHolding hob
  by_cases h : (σ q 3 >>> (nI k &&& 31)) &&& 1 = 0
  · rw [if_pos h]; simp [h]
  · rw [if_neg h]; simp [h]
section
variable {N : Nat} {hd : Nat → Prop} {g0 : Nat → Nat} {ask : Nat → Int32} {q : Nat}
theorem c_ins {K : Int32 → Mm → Option Mm} {Q : Mm → Prop} {x L : Nat} {Ln : Nat → Nat} {τ : Mm} (hx : x < 6) (hL : L < 6) (hq : 43 ≤ q ∨ q + 9 < 37) (hln : ∀ j, j < L → Ln j < 6 ∧ τ (q + 4) (Ln j) = ask (Ln j)) (hax : τ (q + 4) x = ask x)
    (hK : ∀ p φ, p ≤ L → (∀ j, j < p → φ 40 j = nI (Ln j)) → (∀ j, p ≤ j → j < L → φ 40 (j + 1) = nI (Ln j) ∧ ask x < ask (Ln j)) → (0 < p → ask (Ln (p - 1)) ≤ ask x) → (∀ c, c ≠ 40 → φ c = τ c) → Ok (K (nI p) φ) Q) :
    ∀ p fu υ, p ≤ L → p < fu → (∀ j, j < p → υ 40 j = nI (Ln j)) → (∀ j, p ≤ j → j < L → υ 40 (j + 1) = nI (Ln j) ∧ ask x < ask (Ln j)) → (∀ c, c ≠ 40 → υ c = τ c) → Ok (zfX6_lineUp_L40 K (nI x) q fu (nI p) υ) Q := by
  intro p
  induction p with
  | zero =>
    intro fu υ hp hf h1 h2 h3
    obtain ⟨fu, rfl⟩ : ∃ g, fu = g + 1 := ⟨fu - 1, by omega⟩
    unfold zfX6_lineUp_L40
    rw [if_pos (by decide)]
    exact hK 0 υ hp h1 h2 (fun h => by omega) h3
  | succ p ih =>
    intro fu υ hp hf h1 h2 h3
    obtain ⟨fu, rfl⟩ : ∃ g, fu = g + 1 := ⟨fu - 1, by omega⟩
    unfold zfX6_lineUp_L40
    have x1 : nI (p + 1) - 1 = nI p := by rw [show (1 : Int32) = nI 1 from rfl, n_sub (by omega)]; rfl
    have x2 : nI (p + 1) + (-1) = nI p := n_neg _
    have hl := hln p (by omega)
    have hin1 : inb (nI p) 6 := (n_in (by omega)).mpr (by omega)
    rw [if_neg (by rw [show (0 : Int32) = nI 0 from rfl, n_le (by omega) (by decide)]; omega), x1, ok_ck, n_ix (by omega : p < 2147483648), h1 p (by omega)]
    refine ⟨hin1, ?_⟩
    rw [ok_ck]
    refine ⟨(n_in (by omega)).mpr hl.1, ?_⟩
    rw [ok_ck]
    refine ⟨(n_in (by omega)).mpr hx, ?_⟩
    rw [n_ix (by omega : Ln p < 2147483648), n_ix (by omega : x < 2147483648), h3 (q + 4) (by omega), hl.2, hax]
    by_cases c : ask (Ln p) ≤ ask x
    · rw [if_pos c]
      exact hK (p + 1) υ hp h1 h2 (fun _ => by rw [show p + 1 - 1 = p by omega]; exact c) h3
    · rw [if_neg c, ok_ck]
      refine ⟨hin1, ?_⟩
      rw [ok_ck]
      refine ⟨(n_in (by omega)).mpr (by omega), ?_⟩
      rw [ok_lt, ok_lt, x2, n_ix (by omega)]
      refine ih fu _ (by omega) (by omega) (fun j hj => by rw [zst_k (by omega)]; exact h1 j (by omega)) (fun j hj1 hj2 => ?_) (fun c hc => by rw [zst_n hc]; exact h3 c hc)
      by_cases e : j = p
      · subst e
        rw [zst_v]
        exact ⟨rfl, by rw [Int32.le_iff_toInt_le] at c; rw [Int32.lt_iff_toInt_lt]; omega⟩
      · rw [zst_k (by omega)]; exact h2 j (by omega) hj2
theorem c_lineUp {σ : Mm} (hq : 43 ≤ q ∨ q + 9 < 37) (hN : N ≤ 6) (h5 : σ 37 5 = nI N) (hg : ∀ k, g0 k ≤ 99) (hgo : ∀ k, k < N → σ (q + 1) k = nI (g0 k)) (hask : ∀ k, k < N → σ (q + 4) k = ask k) (hhd : ∀ k, hd k ↔ hob (σ q 3) k) :
    Ok (zfX6_lineUp q σ) (fun τ => (∃ L Ln, LnOk N hd g0 ask q τ L Ln) ∧ (∀ c, c ≠ 37 → c ≠ 40 → τ c = σ c) ∧ ∀ k, k ≠ 8 → τ 37 k = σ 37 k) := by
  unfold zfX6_lineUp
  rw [ok_lt, ok_lt]
  refine ok_up (F := fun fu (s : Int32 × Mm) => zfX6_lineUp_L7 (fun σ109 => some σ109) q fu s.1 s.2) N (fun i s => s.1 = nI i ∧ (∃ L Ln, LnOk i hd g0 ask q s.2 L Ln) ∧ (∀ c, c ≠ 37 → c ≠ 40 → s.2 c = σ c) ∧ ∀ k, k ≠ 8 → s.2 37 k = σ 37 k) ?_ ?_ 0 NF (0, zst σ 37 8 0) ⟨rfl, ⟨0, fun k => k, LnOk.zero (by dsimp only; exact zst_v)⟩, fun c hc _ => by dsimp only; exact zst_n hc, fun k hk => by dsimp only; exact zst_k hk⟩ (by omega) (by unfold NF; omega)
  · rintro x fu ⟨y, τ⟩ hx ⟨hy, hI1, hI2, hI3⟩ hk
    have hy : y = nI x := hy
    subst hy
    obtain ⟨L, Ln, hL⟩ : ∃ L Ln, LnOk x hd g0 ask q τ L Ln := hI1
    have hI2 : ∀ c, c ≠ 37 → c ≠ 40 → τ c = σ c := hI2
    have hI3 : ∀ k, k ≠ 8 → τ 37 k = σ 37 k := hI3
    show Ok (zfX6_lineUp_L7 (fun σ109 => some σ109) q (fu + 1) (nI x) τ) _
    unfold zfX6_lineUp_L7
    have hin : inb (nI x) 6 := (n_in (by omega)).mpr (by omega)
    rw [hI3 5 (by decide), h5, if_neg (by rw [n_le (by omega) (by omega)]; omega), ok_ck]
    refine ⟨hin, ?_⟩
    have hgb := hg x
    rw [ok_lt, n_ix (by omega), hI2 (q + 1) (by omega) (by omega), hgo x hx, show nI x + 1 = nI (x + 1) from n_add _ 1]
    obtain ⟨l1, l2, l3, l4, l5⟩ := hL
    have skip : (¬ (0 < g0 x ∧ ¬ hd x)) → Ok (zfX6_lineUp_L7 (fun σ109 => some σ109) q fu (nI (x + 1)) τ) (fun τ => (∃ L Ln, LnOk N hd g0 ask q τ L Ln) ∧ (∀ c, c ≠ 37 → c ≠ 40 → τ c = σ c) ∧ ∀ k, k ≠ 8 → τ 37 k = σ 37 k) := by
      intro hno
      refine hk (nI (x + 1), τ) ⟨rfl, ⟨L, Ln, by omega, l2, fun i hi => ⟨(l3 i hi).1, by have := (l3 i hi).2.1; omega, (l3 i hi).2.2⟩, l4, fun k hk1 hk2 hk3 => ?_⟩, hI2, hI3⟩
      by_cases e : k = x
      · subst e; exact absurd ⟨hk2, hk3⟩ hno
      · exact l5 k (by omega) hk2 hk3
    by_cases c0 : g0 x = 0
    · rw [c0, if_pos (by decide), ok_lt]
      exact skip (fun q => by omega)
    · rw [if_neg (show ¬ nI (g0 x) = 0 by rw [show (0 : Int32) = nI 0 from rfl, n_eq (by omega) (by decide)]; exact c0)]
      by_cases c1 : zfX8_isHolding q (nI x) τ = 0
      case neg =>
        rw [if_neg c1, ok_lt]
        refine skip (fun h => c1 (c_hold.mpr ?_))
        rw [hI2 q (by omega) (by omega), ← hhd]; exact h.2
      case pos =>
      rw [if_pos c1]
      have hnh : ¬ hd x := by
        have := c_hold.mp c1
        rw [hI2 q (by omega) (by omega), ← hhd] at this
        exact this
      rw [ok_lt, ok_lt, l2]
      have hq4 : τ (q + 4) = σ (q + 4) := hI2 (q + 4) (by omega) (by omega)
      refine c_ins (x := x) (ask := ask) (L := L) (Ln := Ln) (τ := τ) (by omega) (by omega) hq (fun j hj => ⟨by have := (l3 j hj).2.1; omega, by rw [hq4]; exact hask _ (by have := (l3 j hj).2.1; omega)⟩) (by rw [hq4]; exact hask x hx) (fun p φ hp h1 h2 h3 h4 => ?_) L NF τ (Nat.le_refl _) (by unfold NF; omega) (fun j hj => (l3 j hj).1) (fun j h1 h2 => by omega) (fun _ _ => rfl)
      rw [ok_ck]
      refine ⟨(n_in (by omega)).mpr (by omega), ?_⟩
      rw [ok_lt, ok_lt, ok_lt, n_ix (by omega), zst_n (show 37 ≠ 40 by decide), h4 37 (by decide), l2, show nI L + 1 = nI (L + 1) from n_add _ 1]
      refine hk (nI (x + 1), zst (zst φ 40 p (nI x)) 37 8 (nI (L + 1))) ⟨rfl, ⟨L + 1, fun j => if j < p then Ln j else if j = p then x else Ln (j - 1), by omega, by dsimp only; exact zst_v, fun i hi => ?_, fun i j hij hj => ?_, fun k hk1 hk2 hk3 => ?_⟩, fun c hc1 hc2 => ?_, fun k hk => ?_⟩
      · show zst (zst φ 40 p (nI x)) 37 8 (nI (L + 1)) 40 i = _ ∧ _
        rw [zst_n (show 40 ≠ 37 by decide), zst_s]
        dsimp only
        by_cases c1 : i < p
        · rw [if_pos c1, upd_n (by omega)]
          exact ⟨h1 i c1, by have := (l3 i (by omega)).2.1; omega, (l3 i (by omega)).2.2⟩
        · rw [if_neg c1]
          by_cases c2 : i = p
          · rw [if_pos c2, c2, upd_s]; exact ⟨rfl, by omega, hnh⟩
          · rw [if_neg c2, upd_n c2]
            have := (h2 (i - 1) (by omega) (by omega)).1
            rw [show i - 1 + 1 = i by omega] at this
            exact ⟨this, by have := (l3 (i - 1) (by omega)).2.1; omega, (l3 (i - 1) (by omega)).2.2⟩
      · dsimp only
        have le1 : ∀ i, i < p → ask (Ln i) ≤ ask x := by
          intro i hi
          have g := h3 (by omega)
          by_cases c : i = p - 1
          · rw [c]; exact g
          · rw [Int32.le_iff_toInt_le] at g ⊢
            rcases l4 i (p - 1) (by omega) (by omega) with g2 | ⟨g2, -⟩
            · rw [Int32.lt_iff_toInt_lt] at g2; omega
            · rw [g2]; exact g
        by_cases c1 : i < p
        · rw [if_pos c1]
          by_cases c2 : j < p
          · rw [if_pos c2]; exact l4 i j hij (by omega)
          · rw [if_neg c2]
            by_cases c3 : j = p
            · rw [if_pos c3]
              have g := le1 i c1
              by_cases e : ask (Ln i) = ask x
              · exact Or.inr ⟨e, (l3 i (by omega)).2.1⟩
              · left
                rw [Int32.le_iff_toInt_le] at g
                rw [Int32.lt_iff_toInt_lt]
                have : (ask (Ln i)).toInt ≠ (ask x).toInt := fun q => e (Int32.toInt_inj.mp q)
                omega
            · rw [if_neg c3]; exact l4 i (j - 1) (by omega) (by omega)
        · rw [if_neg c1, if_neg (show ¬ j < p by omega), if_neg (show ¬ j = p by omega)]
          by_cases c3 : i = p
          · rw [if_pos c3]; exact Or.inl (h2 (j - 1) (by omega) (by omega)).2
          · rw [if_neg c3]; exact l4 (i - 1) (j - 1) (by omega) (by omega)
      · by_cases c : k = x
        · exact ⟨p, by omega, by dsimp only; rw [if_neg (by omega), if_pos rfl, c]⟩
        · obtain ⟨k0, g1, g2⟩ := l5 k (by omega) hk2 hk3
          by_cases c2 : k0 < p
          · exact ⟨k0, by omega, by dsimp only; rw [if_pos c2, g2]⟩
          · exact ⟨k0 + 1, by omega, by dsimp only; rw [if_neg (by omega), if_neg (by omega), show k0 + 1 - 1 = k0 by omega, g2]⟩
      · show zst (zst φ 40 p (nI x)) 37 8 (nI (L + 1)) c = σ c
        rw [zst_n hc1, zst_n hc2, h4 c hc2]; exact hI2 c hc1 hc2
      · show zst (zst φ 40 p (nI x)) 37 8 (nI (L + 1)) 37 k = σ 37 k
        rw [zst_k hk, zst_n (by decide), h4 37 (by decide)]; exact hI3 k hk
  · rintro fu ⟨y, τ⟩ ⟨hy, hI1, hI2, hI3⟩
    have hy : y = nI N := hy
    subst hy
    have hI3' : ∀ k, k ≠ 8 → τ 37 k = σ 37 k := hI3
    show Ok (zfX6_lineUp_L7 (fun σ109 => some σ109) q (fu + 1) (nI N) τ) _
    unfold zfX6_lineUp_L7
    rw [hI3' 5 (by decide), h5, if_pos (by rw [n_le (by omega) (by omega)]; omega), ok_s]
    exact ⟨hI1, hI2, hI3⟩
end
