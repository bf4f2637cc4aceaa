/-! ===== ring: the class ===== -/
theorem zSb_p {j : Nat} (h : j < 61) : zIsSb (85 + 10 * j) = true := by
  have h1 : decide (85 ≤ 85 + 10 * j) = true := decide_eq_true (by omega)
  have h2 : decide (85 + 10 * j < 695) = true := decide_eq_true (by omega)
  have h3 : ((85 + 10 * j - 85) % 10 == 0) = true := beq_iff_eq.mpr (by omega)
  unfold zIsSb
  rw [h1, h2, h3]
  simp
/-- what the day behind a place of the path may change -/
def FrY (m : Nat) (σ τ : Mm) : Prop := (∀ k, k ≠ 6 → k ≠ 8 → τ 37 k = σ 37 k) ∧ ∀ c, (c < 39 ∨ 42 < c) → (c < 85 + 10 * m ∨ 94 + 10 * m < c) → c ≠ 37 → ¬ stk c → τ c = σ c
theorem FrY.c {m : Nat} {σ τ : Mm} (h : FrY m σ τ) {c : Nat} (hc : c < 12 ∨ 27 ≤ c ∧ c < 37 ∨ c = 38 ∨ 42 < c ∧ c < 85 + 10 * m ∨ 94 + 10 * m < c) : τ c = σ c := h.2 c (by omega) (by omega) (by omega) (stk_n (by omega))
theorem FrY.s {m : Nat} {σ τ : Mm} (hm : m ≤ 60) (h : FrY m σ τ) : FrS σ τ := by
  refine ⟨fun c hc => ?_, fun k _ => by rw [h.c (by omega)], fun k _ => by rw [h.c (by omega)]⟩
  by_cases e : 12 ≤ c ∧ c < 27
  · exact h.2 c (by omega) (by omega) (by omega) (by rcases hc with h | h | h | h | h | h | h | h | h <;> first | exact h.2.2 | omega)
  · exact h.2 c (by omega) (by omega) (by omega) (stk_n (by omega))
theorem FrY.m {m : Nat} {P : Pm} {σ τ : Mm} (h : PmC P σ) (f : FrY m σ τ) : PmC P τ := by
  obtain ⟨h1, h2, h3, h4, h5, h6, h7⟩ := h
  have q : ∀ c, 3 ≤ c → c ≤ 10 ∨ c = 38 → τ c = σ c := fun c a b => f.c (by omega)
  refine ⟨by rw [q 3 (by omega) (by omega)]; exact h1, by rw [q 3 (by omega) (by omega)]; exact h2, by rw [q 3 (by omega) (by omega)]; exact h3, by rw [f.1 4 (by omega) (by omega)]; exact h4, by rw [f.1 5 (by omega) (by omega)]; exact h5, fun k hk => ?_, fun i hi => ?_⟩
  · rw [q 4 (by omega) (by omega), q 5 (by omega) (by omega), q 6 (by omega) (by omega), q 38 (by omega) (by omega)]; exact h6 k hk
  · rw [q 7 (by omega) (by omega), q 8 (by omega) (by omega), q 9 (by omega) (by omega), q 10 (by omega) (by omega)]; exact h7 i hi
theorem FrY.r {m : Nat} {P : Pm} {rc : Nat} {σ τ : Mm} (h : RuC P rc σ) (hrc : rc ≤ 5) (f : FrY m σ τ) : RuC P rc τ :=
  h.of (fun r hr => ⟨f.2 _ (by omega) (by omega) (by omega) (stk_n (by omega)), f.2 _ (by omega) (by omega) (by omega) (stk_n (by omega))⟩)
theorem c_next {P : Pm} {f : Int32} {t σ : Mm} {rc j : Nat} (hj : j < 60) (hP : WFp P) (ht : WFs P t) (hR : RuS P rc t) (hA : AgS (85 + 10 * j) σ t) (hC : PmC P σ) (hRu : RuC P rc σ) :
    Ok (zfX7_next (nI j) f σ) (fun a => a.1 = 85 + 10 * (j + 1) ∧ AgS (85 + 10 * (j + 1)) a.2 (dayS P f t) ∧ FrY (j + 1) σ a.2) := by
  unfold zfX7_next
  refine ok_lg (fun J _ => ?_)
  rw [if_neg (n_nlt0 (by omega)), show nI j + 1 = nI (j + 1) from n_add _ 1, if_pos (by rw [show (61 : Int32) = nI 61 from rfl, n_lt (by omega) (by omega)]; omega), ck_t ((n_in (by omega)).mpr (by omega)), ck_t ((n_in (by omega)).mpr (by omega)), n_ix (by omega), n_ix (by omega), ok_bd]
  refine ok_mono (c_copy (q0 := 85 + 10 * (j + 1)) (q1 := 85 + 10 * j) (by omega) hA) (fun τ1 h1 => ?_)
  obtain ⟨a1, a2⟩ := h1
  have C1 : PmC P τ1 := hC.of (fun c hc => a2 c (by omega))
  have R1 : RuC P rc τ1 := hRu.of (fun r hr => by have := hR.1; exact ⟨a2 _ (by omega), a2 _ (by omega)⟩)
  rw [ok_bd]
  refine ok_mono (c_day (f := f) (q := 85 + 10 * (j + 1)) (by omega) (by omega) hP ht hR a1 C1 R1) (fun τ2 h2 => ?_)
  obtain ⟨b1, b2, b3, b4, b5⟩ := h2
  rw [ok_s]
  dsimp only
  refine ⟨rfl, b1, fun k x1 x2 => by rw [b4 k x1 x2, a2 37 (by omega)], fun c x1 x2 x3 x4 => ?_⟩
  rw [b5 c (by omega) x3 (by omega) (by omega) (by omega) (by omega) x4, a2 c (by omega)]
/-- two states in which a day begins alike -/
def LkS (s t : Mm) : Prop := s 0 0 = t 0 0 ∧ (∀ k, k < 5 → s 1 k = t 1 k ∧ s 2 k = t 2 k) ∧ ∀ k, k < 24 → s 7 k = t 7 k
def Fl (y : Int32) (p : Prop) : Prop := (y = 0 ∧ ¬ p) ∨ (y = 1 ∧ p)
theorem c_like {q0 q1 : Nat} {σ s t : Mm} (hA : AgS q0 σ s) (hB : AgS q1 σ t) : Ok (zfX8_isLike q0 q1 σ) (fun r => Fl r (LkS s t)) := by
  obtain ⟨a1, a2, a3, a4, a5⟩ := hA
  obtain ⟨b1, b2, b3, b4, b5⟩ := hB
  unfold zfX8_isLike
  refine ok_lg (fun J hJ => ?_)
  have main : ∀ y, Fl y (s 0 0 = t 0 0) → Ok (J y) (fun r => Fl r (LkS s t)) := fun y hy => by
    simp only [hJ]
    refine ok_lg (fun K hK => ?_)
    refine ok_up (F := fun fu (x : Int32 × Int32) => zfX8_isLike_L19 K σ q0 q1 fu x.1 x.2) 5 (fun i x => x.2 = nI i ∧ Fl x.1 (s 0 0 = t 0 0 ∧ ∀ k, k < i → s 1 k = t 1 k ∧ s 2 k = t 2 k)) ?_ ?_ 0 NF (y, 0) ⟨rfl, hy.imp (fun h => ⟨h.1, fun h2 => h.2 h2.1⟩) (fun h => ⟨h.1, h.2, fun k hk => absurd hk (Nat.not_lt_zero k)⟩)⟩ (by omega) (by unfold NF; omega)
    · rintro i fu ⟨y, x⟩ hi ⟨hx, hf⟩ hk
      have hx : x = nI i := hx
      subst hx
      have hf : Fl y (s 0 0 = t 0 0 ∧ ∀ k, k < i → s 1 k = t 1 k ∧ s 2 k = t 2 k) := hf
      show Ok (zfX8_isLike_L19 K σ q0 q1 (fu + 1) y (nI i)) _
      unfold zfX8_isLike_L19
      rw [if_neg (by rw [show (5 : Int32) = nI 5 from rfl, n_le (by omega) (by omega)]; omega)]
      refine ok_lg (fun J2 hJ2 => ?_)
      have go : ∀ y2, Fl y2 (s 0 0 = t 0 0 ∧ ∀ k, k < i + 1 → s 1 k = t 1 k ∧ s 2 k = t 2 k) → Ok (J2 y2) (fun r => Fl r (LkS s t)) := fun y2 h2 => by
        simp only [hJ2]
        refine ok_lg (fun x2 ex => ?_)
        rw [show nI i + 1 = nI (i + 1) from n_add _ 1] at ex
        exact hk (y2, x2) ⟨ex, h2⟩
      refine ok_lg (fun J3 hJ3 => ?_)
      have no : ¬ (s 0 0 = t 0 0 ∧ ∀ k, k < i + 1 → s 1 k = t 1 k ∧ s 2 k = t 2 k) → Ok (J3 ()) (fun r => Fl r (LkS s t)) := fun h => by
        simp only [hJ3]
        exact go 0 (Or.inl ⟨rfl, h⟩)
      have hin : inb (nI i) 6 := (n_in (by omega)).mpr (by omega)
      rcases hf with ⟨e, hf⟩ | ⟨e, hf⟩
      · rw [if_pos e]
        exact no (fun h => hf ⟨h.1, fun k hk => h.2 k (by omega)⟩)
      · rw [if_neg (by rw [e]; decide), ck_t hin, ck_t hin, n_ix (by omega), a4 1 i (by omega) (by omega), b4 1 i (by omega) (by omega)]
        by_cases c : s 1 i = t 1 i
        · rw [if_pos c, ck_t hin, ck_t hin, a4 2 i (by omega) (by omega), b4 2 i (by omega) (by omega)]
          by_cases c2 : s 2 i = t 2 i
          · rw [if_pos c2]
            refine go 1 (Or.inr ⟨rfl, hf.1, fun k hk => ?_⟩)
            by_cases e : k = i
            · subst e; exact ⟨c, c2⟩
            · exact hf.2 k (by omega)
          · rw [if_neg c2]; exact no (fun h => c2 (h.2 i (by omega)).2)
        · rw [if_neg c]; exact no (fun h => c (h.2 i (by omega)).1)
    · rintro fu ⟨y, x⟩ ⟨hx, hf⟩
      have hx : x = nI 5 := hx
      subst hx
      have hf : Fl y (s 0 0 = t 0 0 ∧ ∀ k, k < 5 → s 1 k = t 1 k ∧ s 2 k = t 2 k) := hf
      show Ok (zfX8_isLike_L19 K σ q0 q1 (fu + 1) y (nI 5)) _
      unfold zfX8_isLike_L19
      rw [if_pos (by decide)]
      simp only [hK]
      refine ok_lg (fun K2 hK2 => ?_)
      refine ok_up (F := fun fu (x : Int32 × Int32) => zfX8_isLike_L72 K2 σ q0 q1 fu x.1 x.2) 24 (fun i x => x.2 = nI i ∧ Fl x.1 (s 0 0 = t 0 0 ∧ (∀ k, k < 5 → s 1 k = t 1 k ∧ s 2 k = t 2 k) ∧ ∀ k, k < i → s 7 k = t 7 k)) ?_ ?_ 0 NF (y, 0) ⟨rfl, hf.imp (fun h => ⟨h.1, fun h2 => h.2 ⟨h2.1, h2.2.1⟩⟩) (fun h => ⟨h.1, h.2.1, h.2.2, fun k hk => absurd hk (Nat.not_lt_zero k)⟩)⟩ (by omega) (by unfold NF; omega)
      · rintro i fu ⟨y, x⟩ hi ⟨hx, hf⟩ hk
        have hx : x = nI i := hx
        subst hx
        have hf : Fl y (s 0 0 = t 0 0 ∧ (∀ k, k < 5 → s 1 k = t 1 k ∧ s 2 k = t 2 k) ∧ ∀ k, k < i → s 7 k = t 7 k) := hf
        show Ok (zfX8_isLike_L72 K2 σ q0 q1 (fu + 1) y (nI i)) _
        unfold zfX8_isLike_L72
        have hno : ¬ (24 : Int32) ≤ nI i := by rw [show (24 : Int32) = nI 24 from rfl, n_le (by omega) (by omega)]; omega
        rw [if_neg hno, if_neg hno]
        refine ok_lg (fun J2 hJ2 => ?_)
        have go : ∀ y2, Fl y2 (s 0 0 = t 0 0 ∧ (∀ k, k < 5 → s 1 k = t 1 k ∧ s 2 k = t 2 k) ∧ ∀ k, k < i + 1 → s 7 k = t 7 k) → Ok (J2 y2) (fun r => Fl r (LkS s t)) := fun y2 h2 => by
          simp only [hJ2]
          refine ok_lg (fun x2 ex => ?_)
          rw [show nI i + 1 = nI (i + 1) from n_add _ 1] at ex
          exact hk (y2, x2) ⟨ex, h2⟩
        refine ok_lg (fun J3 hJ3 => ?_)
        have no : ¬ (s 0 0 = t 0 0 ∧ (∀ k, k < 5 → s 1 k = t 1 k ∧ s 2 k = t 2 k) ∧ ∀ k, k < i + 1 → s 7 k = t 7 k) → Ok (J3 ()) (fun r => Fl r (LkS s t)) := fun h => by
          simp only [hJ3]
          exact go 0 (Or.inl ⟨rfl, h⟩)
        have hin : inb (nI i) 24 := (n_in (by omega)).mpr (by omega)
        rcases hf with ⟨e, hf⟩ | ⟨e, hf⟩
        · rw [if_pos e]
          exact no (fun h => hf ⟨h.1, h.2.1, fun k hk => h.2.2 k (by omega)⟩)
        · rw [if_neg (by rw [e]; decide), ck_t hin, ck_t hin, n_ix (by omega), a5 i (by omega), b5 i (by omega)]
          by_cases c : s 7 i = t 7 i
          · rw [if_pos c]
            refine go 1 (Or.inr ⟨rfl, hf.1, hf.2.1, fun k hk => ?_⟩)
            by_cases e : k = i
            · subst e; exact c
            · exact hf.2.2 k (by omega)
          · rw [if_neg c]; exact no (fun h => c (h.2.2 i (by omega)))
      · rintro fu ⟨y, x⟩ ⟨hx, hf⟩
        have hx : x = nI 24 := hx
        subst hx
        have hf : Fl y (LkS s t) := hf
        show Ok (zfX8_isLike_L72 K2 σ q0 q1 (fu + 1) y (nI 24)) _
        unfold zfX8_isLike_L72
        rw [if_pos (by decide)]
        simp only [hK2]
        rw [ok_ck, ok_s]
        exact ⟨by rcases hf with ⟨e, _⟩ | ⟨e, _⟩; exact Or.inl e; exact Or.inr e, hf⟩
  rw [a1 0 (by omega), b1 0 (by omega)]
  by_cases c : s 0 0 = t 0 0
  · rw [if_pos c]; exact main 1 (Or.inr ⟨rfl, c⟩)
  · rw [if_neg c]; exact main 0 (Or.inl ⟨rfl, c⟩)
/-- how a ring ends: none so far, or first found -/
def RgN (P : Pm) (s : Mm) (m : Nat) : Prop := ∀ j, j ≤ m → ∀ i, i < j → ¬ LkS (dys P s i) (dys P s j)
def RgE (P : Pm) (s : Mm) (p q : Int32) : Prop := (p = -1 ∧ q = -1 ∧ RgN P s 60) ∨ ∃ j i, i < j ∧ j ≤ 60 ∧ LkS (dys P s i) (dys P s j) ∧ (∀ k, k < j → ∀ i, i < k → ¬ LkS (dys P s i) (dys P s k)) ∧ (∀ k, k < i → ¬ LkS (dys P s k) (dys P s j)) ∧ p = nI i ∧ q = nI (j - i)
theorem RgE.uniq {P : Pm} {s : Mm} {p q p2 q2 : Int32} (h : RgE P s p q) (h2 : RgE P s p2 q2) : p = p2 ∧ q = q2 := by
  rcases h with ⟨a1, a2, a3⟩ | ⟨j, i, a1, a2, a3, a4, a5, a6, a7⟩
  · rcases h2 with ⟨b1, b2, b3⟩ | ⟨j, i, b1, b2, b3, b4, b5, b6, b7⟩
    · exact ⟨a1.trans b1.symm, a2.trans b2.symm⟩
    · exact absurd b3 (a3 j b2 i b1)
  · rcases h2 with ⟨b1, b2, b3⟩ | ⟨j2, i2, b1, b2, b3, b4, b5, b6, b7⟩
    · exact absurd a3 (b3 j a2 i a1)
    · have : j = j2 := by
        rcases Nat.lt_trichotomy j j2 with c | c | c
        · exact absurd a3 (b4 j c i a1)
        · exact c
        · exact absurd b3 (a4 j2 c i2 b1)
      subst this
      have : i = i2 := by
        rcases Nat.lt_trichotomy i i2 with c | c | c
        · exact absurd a3 (b5 i c)
        · exact c
        · exact absurd b3 (a5 i2 c)
      subst this
      exact ⟨a6.trans b6.symm, a7.trans b7.symm⟩
theorem cs_begin {P : Pm} {rc B : Nat} {σ s : Mm} (hP : IvP P) (hM : IvM P σ) (hR : RuC P rc σ) (hS : IvS P rc B 27 714 σ s) :
    Ok (zfX7_begin σ) (fun a => a.1 = 85 ∧ AgS 85 a.2 s ∧ PmC P a.2 ∧ RuC P rc a.2 ∧ FrS σ a.2 ∧ ∀ c, (c < 37 ∨ 38 < c ∧ c < 85 ∨ 94 < c) → a.2 c = σ c) := by
  obtain ⟨m1, m2, m3, m4, m5, m6, m7, m8⟩ := hM
  obtain ⟨n1, n2, n3, n4⟩ := m5
  have hp := hP.1
  unfold zfX7_begin
  rw [ok_bd]
  refine ok_mono c_begin6 (fun τ h => ?_)
  obtain ⟨b1, b2, b3, b4, b5⟩ := h
  rw [ok_bd]
  refine ok_mono (c_copy (q0 := 85) (q1 := 27) (by omega) (hS.1.fr (fun c x1 x2 => b5 c (by omega) (by omega)))) (fun φ h => ?_)
  obtain ⟨d1, d2⟩ := h
  rw [ok_s]
  dsimp only
  have q : ∀ c, (c < 37 ∨ 38 < c ∧ c < 85 ∨ 94 < c) → φ c = σ c := fun c hc => by rw [d2 c (by omega), b5 c (by omega) (by omega)]
  refine ⟨rfl, d1, ⟨by rw [q 3 (by omega)]; exact m1, by rw [q 3 (by omega)]; exact m2, by rw [q 3 (by omega)]; exact n2, by rw [d2 37 (by omega), b2]; exact n1, by rw [d2 37 (by omega), b1, m1, hP.2.2.1], fun k hk => ?_, fun i hi => ?_⟩, hR.of (fun r hr => ⟨?_, ?_⟩), ⟨fun c hc => q c (by omega), fun k _ => by rw [q 714 (by omega)], fun k _ => by rw [q 703 (by omega)]⟩, q⟩
  · rw [q 4 (by omega), q 5 (by omega), q 6 (by omega), d2 38 (by omega), b4 k (by have := hp.2.2.2.1; omega), hP.2.2.2 k]
    have := m6 k (by have := hP.2.2.1; omega)
    exact ⟨this.1, this.2.1, this.2.2.1, rfl⟩
  · rw [q 7 (by omega), q 8 (by omega), q 9 (by omega), q 10 (by omega)]
    have := m7 i hi
    exact ⟨this.1, this.2.1, this.2.2.1, this.2.2.2.1⟩
  · have := hS.2.2.2.1.1
    exact q _ (by omega)
  · have := hS.2.2.2.1.1
    exact q _ (by omega)
/-- the class looks for a ring -/
theorem c_ring {B : Nat} {P : Pm} {rc : Nat} {s σ : Mm} (hB : B < 900000) (hI : Ivx B P rc s σ) (h0 : 0 < pn P) :
    Ok (zfX7_findRing σ) (fun a => FrS σ a.2 ∧ ((a.1 = 0 ∧ RgE P s (-1) (-1)) ∨ (a.1 = 1 ∧ RgE P s (a.2 79 4) (a.2 79 5)))) := by
  obtain ⟨h1, h2, h3, ⟨r1, r2, r3, r4, r5⟩, ⟨hS, s4⟩, h6⟩ := id hI
  obtain ⟨s1, s2, s3, t4, t5, t6⟩ := id hS
  unfold zfX7_findRing
  rw [ok_bd2]
  refine ok_mono (cs_begin h2 h3 r4 hS) (fun a ha => ?_)
  obtain ⟨b1, b2, b3, b4, b5, b6⟩ := ha
  rw [b1, ck_t (show zIsSb 85 = true from zSb_p (j := 0) (by omega))]
  refine ok_lg (fun K1 hK1 => ?_)
  refine ok_lg (fun K2 hK2 => ?_)
  refine ok_up (F := fun fu (x : Int32 × Mm) => zfX7_findRing_L7 K2 K1 fu x.1 x.2) 60 (fun j x => x.1 = nI j ∧ (∀ i, i ≤ j → AgS (85 + 10 * i) x.2 (dys P s i)) ∧ PmC P x.2 ∧ RuC P rc x.2 ∧ FrS σ x.2 ∧ RgN P s j) ?_ ?_ 0 NF (0, a.2) ⟨rfl, fun i hi => by
      have : i = 0 := by omega
      subst this; exact b2, b3, b4, b5, fun j hj i hi => by omega⟩ (by omega) (by unfold NF; omega)
  · rintro j fu ⟨y, τ⟩ hj ⟨hy, g1, g2, g3, g4, g5⟩ hk
    have hy : y = nI j := hy
    subst hy
    have g1 : ∀ i, i ≤ j → AgS (85 + 10 * i) τ (dys P s i) := g1
    have g2 : PmC P τ := g2
    have g3 : RuC P rc τ := g3
    have g4 : FrS σ τ := g4
    show Ok (zfX7_findRing_L7 K2 K1 (fu + 1) (nI j) τ) _
    unfold zfX7_findRing_L7
    have w := dys_wf h2.1 s3 t5 hB j (by omega)
    rw [if_neg (by rw [show (60 : Int32) = nI 60 from rfl, n_le (by omega) (by omega)]; omega), ok_bd2]
    refine ok_mono (c_next hj h2.1 w.1 (dys_ru t4 j) (g1 j (Nat.le_refl _)) g2 g3) (fun b hb => ?_)
    obtain ⟨d1, d2, d3⟩ := hb
    rw [d1, ck_t (zSb_p (by omega))]
    have fr : FrS σ b.2 := g4.trans (d3.s (by omega))
    have g1' : ∀ i, i ≤ j + 1 → AgS (85 + 10 * i) b.2 (dys P s i) := fun i hi => by
      by_cases e : i = j + 1
      · subst e; exact d2
      · exact (g1 i (by omega)).fr (fun c x1 x2 => d3.c (by omega))
    refine ok_lg (fun K3 hK3 => ?_)
    refine ok_lg (fun K4 hK4 => ?_)
    refine ok_up (F := fun fu (x : Int32) => zfX7_findRing_L22 (nI j) K4 (85 + 10 * (j + 1)) K3 fu x b.2) (j + 1) (fun i x => x = nI i ∧ ∀ k, k < i → ¬ LkS (dys P s k) (dys P s (j + 1))) ?_ ?_ 0 NF 0 ⟨rfl, fun k hk => absurd hk (Nat.not_lt_zero k)⟩ (by omega) (by unfold NF; omega)
    · rintro i fu2 y hi ⟨hy, hno⟩ hk2
      subst hy
      show Ok (zfX7_findRing_L22 (nI j) K4 (85 + 10 * (j + 1)) K3 (fu2 + 1) (nI i) b.2) _
      unfold zfX7_findRing_L22
      rw [if_neg (by rw [n_lt (by omega) (by omega)]; omega), ck_t ((n_in (by omega)).mpr (by omega)), ck_t ((n_in (by omega)).mpr (by omega)), n_ix (by omega), ok_bd]
      refine ok_mono (c_like (g1' i (by omega)) (g1' (j + 1) (Nat.le_refl _))) (fun r hr => ?_)
      rcases hr with ⟨e, hr⟩ | ⟨e, hr⟩
      · rw [if_pos e]
        refine ok_lg (fun y2 ey => ?_)
        rw [show nI i + 1 = nI (i + 1) from n_add _ 1] at ey
        refine hk2 y2 ⟨ey, fun k hk => ?_⟩
        by_cases e2 : k = i
        · subst e2; exact hr
        · exact hno k (by omega)
      · rw [if_neg (by rw [e]; decide)]
        simp only [hK3, hK1]
        refine ok_lg (fun φ1 e1 => ?_)
        refine ok_lg (fun φ2 e2 => ?_)
        rw [ok_s]
        dsimp only
        have q : ∀ c, c ≠ 79 → φ2 c = b.2 c := fun c hc => by rw [e2, zst_n hc, e1, zst_n hc]
        refine ⟨fr.trans ⟨fun c hc => q c (by omega), fun k _ => by rw [q 714 (by omega)], fun k _ => by rw [q 703 (by omega)]⟩, Or.inr ⟨rfl, Or.inr ⟨j + 1, i, by omega, by omega, hr, fun k hk => g5 k (by omega), hno, ?_, ?_⟩⟩⟩
        · rw [e2, zst_k (by omega), e1, zst_v]
        · rw [e2, zst_v, show nI j + 1 = nI (j + 1) from n_add _ 1, n_sub (by omega)]
    · rintro fu2 y ⟨hy, hno⟩
      subst hy
      show Ok (zfX7_findRing_L22 (nI j) K4 (85 + 10 * (j + 1)) K3 (fu2 + 1) (nI (j + 1)) b.2) _
      unfold zfX7_findRing_L22
      rw [if_pos (by rw [n_lt (by omega) (by omega)]; omega)]
      simp only [hK4]
      refine ok_lg (fun y2 ey => ?_)
      rw [show nI j + 1 = nI (j + 1) from n_add _ 1] at ey
      refine hk (y2, b.2) ⟨ey, g1', d3.m g2, d3.r g3 r3, fr, fun k hk i hi => ?_⟩
      by_cases e : k = j + 1
      · subst e; exact hno i hi
      · exact g5 k (by omega) i hi
  · rintro fu ⟨y, τ⟩ ⟨hy, g1, g2, g3, g4, g5⟩
    have hy : y = nI 60 := hy
    subst hy
    show Ok (zfX7_findRing_L7 K2 K1 (fu + 1) (nI 60) τ) _
    unfold zfX7_findRing_L7
    rw [if_pos (by decide)]
    simp only [hK2]
    rw [ok_s]
    exact ⟨g4, Or.inl ⟨rfl, Or.inl ⟨rfl, rfl, g5⟩⟩⟩
