/-! ===== ring: the class ===== -/
theorem zSb_p {j : Nat} (h : j < 61) : zIsSb (85 + 10 * j) = true := by
  have h1 : decide (85 ≤ 85 + 10 * j) = true := decide_eq_true (by omega)
  have h2 : decide (85 + 10 * j < 695) = true := decide_eq_true (by omega)
  have h3 : ((85 + 10 * j - 85) % 10 == 0) = true := beq_iff_eq.mpr (by omega)
  unfold zIsSb
  rw [h1, h2, h3]
  simp
/-- what the day behind a place of the path may change -/
def FrN (m : Nat) (σ τ : Mm) : Prop := (∀ k, k ≠ 6 → k ≠ 8 → τ 37 k = σ 37 k) ∧ ∀ c, (c < 39 ∨ 42 < c) → (c < 85 + 10 * m ∨ 94 + 10 * m < c) → c ≠ 37 → ¬ stk c → τ c = σ c
theorem FrN.c {m : Nat} {σ τ : Mm} (h : FrN m σ τ) {c : Nat} (hc : c < 12 ∨ 27 ≤ c ∧ c < 37 ∨ c = 38 ∨ 42 < c ∧ c < 85 + 10 * m ∨ 94 + 10 * m < c) : τ c = σ c := h.2 c (by omega) (by omega) (by omega) (stk_n (by omega))
theorem FrN.s {m : Nat} {σ τ : Mm} (hm : m ≤ 60) (h : FrN m σ τ) : FrS σ τ := by
  refine ⟨fun c hc => ?_, fun k _ => by rw [h.c (by omega)], fun k _ => by rw [h.c (by omega)]⟩
  by_cases e : 12 ≤ c ∧ c < 27
  · exact h.2 c (by omega) (by omega) (by omega) (by rcases hc with h | h | h | h | h | h | h | h | h <;> first | exact h.2.2 | omega)
  · exact h.2 c (by omega) (by omega) (by omega) (stk_n (by omega))
theorem FrN.m {m : Nat} {P : Pm} {σ τ : Mm} (h : PmC P σ) (f : FrN m σ τ) : PmC P τ := by
  obtain ⟨h1, h2, h3, h4, h5, h6, h7⟩ := h
  have q : ∀ c, 3 ≤ c → c ≤ 10 ∨ c = 38 → τ c = σ c := fun c a b => f.c (by omega)
  refine ⟨by rw [q 3 (by omega) (by omega)]; exact h1, by rw [q 3 (by omega) (by omega)]; exact h2, by rw [q 3 (by omega) (by omega)]; exact h3, by rw [f.1 4 (by omega) (by omega)]; exact h4, by rw [f.1 5 (by omega) (by omega)]; exact h5, fun k hk => ?_, fun i hi => ?_⟩
  · rw [q 4 (by omega) (by omega), q 5 (by omega) (by omega), q 6 (by omega) (by omega), q 38 (by omega) (by omega)]; exact h6 k hk
  · rw [q 7 (by omega) (by omega), q 8 (by omega) (by omega), q 9 (by omega) (by omega), q 10 (by omega) (by omega)]; exact h7 i hi
theorem FrN.r {m : Nat} {P : Pm} {rc : Nat} {σ τ : Mm} (h : RuC P rc σ) (hrc : rc ≤ 5) (f : FrN m σ τ) : RuC P rc τ :=
  h.of (fun r hr => ⟨f.2 _ (by omega) (by omega) (by omega) (stk_n (by omega)), f.2 _ (by omega) (by omega) (by omega) (stk_n (by omega))⟩)
theorem c_next {P : Pm} {f : Int32} {t σ : Mm} {rc j : Nat} (hj : j < 60) (hP : WFp P) (ht : WFs P t) (hR : RuS P rc t) (hA : AgS (85 + 10 * j) σ t) (hC : PmC P σ) (hRu : RuC P rc σ) :
    Ok (zfX7_next (nI j) f σ) (fun a => a.1 = 85 + 10 * (j + 1) ∧ AgS (85 + 10 * (j + 1)) a.2 (dayS P f t) ∧ FrN (j + 1) σ a.2) := by
  unfold zfX7_next
  refine ok_lg (fun J _ => ?_)
  rw [if_neg (n_nlt0 (by omega)), show nI j + 1 = nI (j + 1) from n_add _ 1, if_pos (by rw [show (61 : Int32) = nI 61 from rfl, n_lt (by omega) (by omega)]; omega), ck_t ((n_in (by omega)).mpr (by omega)), ck_t ((n_in (by omega)).mpr (by omega)), n_ix (by omega), n_ix (by omega), ok_bd]
  refine ok_mono (c_copy (q0 := 85 + 10 * (j + 1)) (q1 := 85 + 10 * j) (by omega) hA) (fun τ1 h1 => ?_)
  obtain ⟨a1, a2⟩ := h1
  have C1 : PmC P τ1 := hC.of (fun c hc => a2 c (by omega))
  have R1 : RuC P rc τ1 := hRu.of (fun r hr => by have := hR.1; exact ⟨a2 _ (by omega), a2 _ (by omega)⟩)
  rw [ok_bd]
  refine ok_mono (c_day (f := f) (q := 85 + 10 * (j + 1)) (by omega) (by omega) hP ht hR a1 C1 R1) (fun τ2 h2 => ?_)
  obtain ⟨b1, b2, b3, b4, b5⟩ := h2
  rw [ok_s]
  refine ⟨rfl, b1, fun k x1 x2 => by rw [b4 k x1 x2, a2 37 (by omega)], fun c x1 x2 x3 x4 => ?_⟩
  dsimp only
  rw [b5 c (by omega) x3 (by omega) (by omega) (by omega) (by omega) x4, a2 c (by omega)]
/-- two states in which a day begins alike -/
def LkS (s t : Mm) : Prop := s 0 0 = t 0 0 ∧ (∀ k, k < 5 → s 1 k = t 1 k ∧ s 2 k = t 2 k) ∧ ∀ k, k < 24 → s 7 k = t 7 k
def Fl (y : Int32) (p : Prop) : Prop := (y = 0 ∧ ¬ p) ∨ (y = 1 ∧ p)
theorem c_like {q0 q1 : Nat} {σ s t : Mm} (hA : AgS q0 σ s) (hB : AgS q1 σ t) : Ok (zfX8_isLike q0 q1 σ) (fun r => Fl r (LkS s t)) := by
  obtain ⟨a1, a2, a3, a4, a5⟩ := hA
  obtain ⟨b1, b2, b3, b4, b5⟩ := hB
  unfold zfX8_isLike
  refine ok_lg (fun J hJ => ?_)
  have main : ∀ y, Fl y (s 0 0 = t 0 0) → Ok (J y) (fun r => Fl r (LkS s t)) := fun y hy => by
    simp only [hJ]
    refine ok_lg (fun K hK => ?_)
    refine ok_up (F := fun fu (x : Int32 × Int32) => zfX8_isLike_L19 K σ q0 q1 fu x.1 x.2) 5 (fun i x => x.2 = nI i ∧ Fl x.1 (s 0 0 = t 0 0 ∧ ∀ k, k < i → s 1 k = t 1 k ∧ s 2 k = t 2 k)) ?_ ?_ 0 NF (y, 0) ⟨rfl, hy.imp (fun h => ⟨h.1, fun h2 => h.2 h2.1⟩) (fun h => ⟨h.1, h.2, fun k hk => absurd hk (Nat.not_lt_zero k)⟩)⟩ (by omega) (by unfold NF; omega)
    · rintro i fu ⟨y, x⟩ hi ⟨hx, hf⟩ hk
      have hx : x = nI i := hx
      subst hx
      have hf : Fl y (s 0 0 = t 0 0 ∧ ∀ k, k < i → s 1 k = t 1 k ∧ s 2 k = t 2 k) := hf
      show Ok (zfX8_isLike_L19 K σ q0 q1 (fu + 1) y (nI i)) _
      unfold zfX8_isLike_L19
      rw [if_neg (by rw [show (5 : Int32) = nI 5 from rfl, n_le (by omega) (by omega)]; omega)]
      refine ok_lg (fun J2 hJ2 => ?_)
      have go : ∀ y2, Fl y2 (s 0 0 = t 0 0 ∧ ∀ k, k < i + 1 → s 1 k = t 1 k ∧ s 2 k = t 2 k) → Ok (J2 y2) (fun r => Fl r (LkS s t)) := fun y2 h2 => by
        simp only [hJ2]
        refine ok_lg (fun x2 ex => ?_)
        rw [show nI i + 1 = nI (i + 1) from n_add _ 1] at ex
        exact hk (y2, x2) ⟨ex, h2⟩
      refine ok_lg (fun J3 hJ3 => ?_)
      have no : ¬ (s 0 0 = t 0 0 ∧ ∀ k, k < i + 1 → s 1 k = t 1 k ∧ s 2 k = t 2 k) → Ok (J3 ()) (fun r => Fl r (LkS s t)) := fun h => by
        simp only [hJ3]
        exact go 0 (Or.inl ⟨rfl, h⟩)
      have hin : inb (nI i) 6 := (n_in (by omega)).mpr (by omega)
      rcases hf with ⟨e, hf⟩ | ⟨e, hf⟩
      · rw [if_pos e]
        exact no (fun h => hf ⟨h.1, fun k hk => h.2 k (by omega)⟩)
      · rw [if_neg (by rw [e]; decide), ck_t hin, ck_t hin, n_ix (by omega), a4 1 i (by omega) (by omega), b4 1 i (by omega) (by omega)]
        by_cases c : s 1 i = t 1 i
        · rw [if_pos c, ck_t hin, ck_t hin, a4 2 i (by omega) (by omega), b4 2 i (by omega) (by omega)]
          by_cases c2 : s 2 i = t 2 i
          · rw [if_pos c2]
            refine go 1 (Or.inr ⟨rfl, hf.1, fun k hk => ?_⟩)
            by_cases e : k = i
            · subst e; exact ⟨c, c2⟩
            · exact hf.2 k (by omega)
          · rw [if_neg c2]; exact no (fun h => c2 (h.2 i (by omega)).2)
        · rw [if_neg c]; exact no (fun h => c (h.2 i (by omega)).1)
    · rintro fu ⟨y, x⟩ ⟨hx, hf⟩
      have hx : x = nI 5 := hx
      subst hx
      have hf : Fl y (s 0 0 = t 0 0 ∧ ∀ k, k < 5 → s 1 k = t 1 k ∧ s 2 k = t 2 k) := hf
      show Ok (zfX8_isLike_L19 K σ q0 q1 (fu + 1) y (nI 5)) _
      unfold zfX8_isLike_L19
      rw [if_pos (by decide)]
      simp only [hK]
      refine ok_lg (fun K2 hK2 => ?_)
      refine ok_up (F := fun fu (x : Int32 × Int32) => zfX8_isLike_L72 K2 σ q0 q1 fu x.1 x.2) 24 (fun i x => x.2 = nI i ∧ Fl x.1 (s 0 0 = t 0 0 ∧ (∀ k, k < 5 → s 1 k = t 1 k ∧ s 2 k = t 2 k) ∧ ∀ k, k < i → s 7 k = t 7 k)) ?_ ?_ 0 NF (y, 0) ⟨rfl, hf.imp (fun h => ⟨h.1, fun h2 => h.2 ⟨h2.1, h2.2.1⟩⟩) (fun h => ⟨h.1, h.2.1, h.2.2, fun k hk => absurd hk (Nat.not_lt_zero k)⟩)⟩ (by omega) (by unfold NF; omega)
      · rintro i fu ⟨y, x⟩ hi ⟨hx, hf⟩ hk
        have hx : x = nI i := hx
        subst hx
        have hf : Fl y (s 0 0 = t 0 0 ∧ (∀ k, k < 5 → s 1 k = t 1 k ∧ s 2 k = t 2 k) ∧ ∀ k, k < i → s 7 k = t 7 k) := hf
        show Ok (zfX8_isLike_L72 K2 σ q0 q1 (fu + 1) y (nI i)) _
        unfold zfX8_isLike_L72
        have hno : ¬ (24 : Int32) ≤ nI i := by rw [show (24 : Int32) = nI 24 from rfl, n_le (by omega) (by omega)]; omega
        rw [if_neg hno, if_neg hno]
        refine ok_lg (fun J2 hJ2 => ?_)
        have go : ∀ y2, Fl y2 (s 0 0 = t 0 0 ∧ (∀ k, k < 5 → s 1 k = t 1 k ∧ s 2 k = t 2 k) ∧ ∀ k, k < i + 1 → s 7 k = t 7 k) → Ok (J2 y2) (fun r => Fl r (LkS s t)) := fun y2 h2 => by
          simp only [hJ2]
          refine ok_lg (fun x2 ex => ?_)
          rw [show nI i + 1 = nI (i + 1) from n_add _ 1] at ex
          exact hk (y2, x2) ⟨ex, h2⟩
        refine ok_lg (fun J3 hJ3 => ?_)
        have no : ¬ (s 0 0 = t 0 0 ∧ (∀ k, k < 5 → s 1 k = t 1 k ∧ s 2 k = t 2 k) ∧ ∀ k, k < i + 1 → s 7 k = t 7 k) → Ok (J3 ()) (fun r => Fl r (LkS s t)) := fun h => by
          simp only [hJ3]
          exact go 0 (Or.inl ⟨rfl, h⟩)
        have hin : inb (nI i) 24 := (n_in (by omega)).mpr (by omega)
        rcases hf with ⟨e, hf⟩ | ⟨e, hf⟩
        · rw [if_pos e]
          exact no (fun h => hf ⟨h.1, h.2.1, fun k hk => h.2.2 k (by omega)⟩)
        · rw [if_neg (by rw [e]; decide), ck_t hin, ck_t hin, n_ix (by omega), a5 i (by omega), b5 i (by omega)]
          by_cases c : s 7 i = t 7 i
          · rw [if_pos c]
            refine go 1 (Or.inr ⟨rfl, hf.1, hf.2.1, fun k hk => ?_⟩)
            by_cases e : k = i
            · subst e; exact c
            · exact hf.2.2 k (by omega)
          · rw [if_neg c]; exact no (fun h => c (h.2.2 i (by omega)))
      · rintro fu ⟨y, x⟩ ⟨hx, hf⟩
        have hx : x = nI 24 := hx
        subst hx
        have hf : Fl y (LkS s t) := hf
        show Ok (zfX8_isLike_L72 K2 σ q0 q1 (fu + 1) y (nI 24)) _
        unfold zfX8_isLike_L72
        rw [if_pos (by decide)]
        simp only [hK2]
        rw [ok_ck, ok_s]
        exact ⟨by rcases hf with ⟨e, _⟩ | ⟨e, _⟩; exact Or.inl e; exact Or.inr e, hf⟩
  rw [a1 0 (by omega), b1 0 (by omega)]
  by_cases c : s 0 0 = t 0 0
  · rw [if_pos c]; exact main 1 (Or.inr ⟨rfl, c⟩)
  · rw [if_neg c]; exact main 0 (Or.inl ⟨rfl, c⟩)
/-- how a ring ends: none so far, or first found -/
def RgN (P : Pm) (s : Mm) (m : Nat) : Prop := ∀ j, j ≤ m → ∀ i, i < j → ¬ LkS (dys P s i) (dys P s j)
def RgE (P : Pm) (s : Mm) (p q : Int32) : Prop := (p = -1 ∧ q = -1 ∧ RgN P s 60) ∨ ∃ j i, i < j ∧ j ≤ 60 ∧ LkS (dys P s i) (dys P s j) ∧ (∀ k, k < j → ∀ i, i < k → ¬ LkS (dys P s i) (dys P s k)) ∧ (∀ k, k < i → ¬ LkS (dys P s k) (dys P s j)) ∧ p = nI i ∧ q = nI (j - i)
theorem RgE.uniq {P : Pm} {s : Mm} {p q p2 q2 : Int32} (h : RgE P s p q) (h2 : RgE P s p2 q2) : p = p2 ∧ q = q2 := by
  rcases h with ⟨a1, a2, a3⟩ | ⟨j, i, a1, a2, a3, a4, a5, a6, a7⟩
  · rcases h2 with ⟨b1, b2, b3⟩ | ⟨j, i, b1, b2, b3, b4, b5, b6, b7⟩
    · exact ⟨a1.trans b1.symm, a2.trans b2.symm⟩
    · exact absurd b3 (a3 j b2 i b1)
  · rcases h2 with ⟨b1, b2, b3⟩ | ⟨j2, i2, b1, b2, b3, b4, b5, b6, b7⟩
    · exact absurd a3 (b3 j a2 i a1)
    · have : j = j2 := by
        rcases Nat.lt_trichotomy j j2 with c | c | c
        · exact absurd a3 (b4 j c i a1)
        · exact c
        · exact absurd b3 (a4 j2 c i2 b1)
      subst this
      have : i = i2 := by
        rcases Nat.lt_trichotomy i i2 with c | c | c
        · exact absurd a3 (b5 i c)
        · exact c
        · exact absurd b3 (a5 i2 c)
      subst this
      exact ⟨a6.trans b6.symm, a7.trans b7.symm⟩
