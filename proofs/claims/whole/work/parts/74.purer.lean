/-! ===== between two calls ===== -/
/-- the market, on both sides -/
def IvM (P : Pm) (σ : Mm) : Prop := σ 3 0 = nI (pn P) ∧ σ 3 1 = nI (pm P) ∧ σ 703 24 = nI (pn P) ∧ σ 703 25 = nI (pm P) ∧
  (σ 3 3 = pld P ∧ σ 3 4 = pfr P ∧ σ 710 0 = pld P ∧ σ 710 1 = pfr P) ∧
  (∀ k, k < pn P → σ 4 k = nI (pbr P k) ∧ σ 5 k = pco P k ∧ σ 6 k = nI (pro P k) ∧ σ 708 (3 * k) = nI (pbr P k) ∧ σ 708 (3 * k + 1) = pco P k ∧ σ 708 (3 * k + 2) = nI (pro P k)) ∧
  (∀ i, i < pm P → σ 7 i = pwo P i ∧ σ 8 i = nI (pma P i) ∧ σ 9 i = nI (pwa P i) ∧ σ 10 i = nI (pw P i) ∧ σ 709 (3 * i) = pwo P i ∧ σ 709 (3 * i + 1) = nI (pma P i) ∧ σ 709 (3 * i + 2) = nI (pwa P i)) ∧ ∀ k, pn P ≤ k → k < 6 → σ 4 k = 0 ∧ σ 5 k = 0 ∧ σ 6 k = 0
/-- a market that can be, with no stranger and nothing told -/
def IvP (P : Pm) : Prop := WFp P ∧ WFw P ∧ pN P = pn P ∧ ∀ k, pto P k = -1
/-- a state, on both sides -/
def IvS (P : Pm) (rc B q r : Nat) (σ s : Mm) : Prop := AgS q σ s ∧ RRs P (wr σ 714 (σ r)) s ∧ WFs P s ∧ RuS P rc s ∧ sm B (s 0 1) ∧ ∀ k, pn P ≤ k → k < 6 → ¬ hob (s 0 3) k
/-- the tape, on both sides -/
def IvT (σ : Mm) : Prop := ∃ (n : Nat) (t : Nat → Int32), n ≤ 160 ∧ σ 1 1 = nI n ∧ σ 703 6 = nI n ∧ (∀ k, k < n → 0 ≤ (t k).toInt ∧ (t k).toInt < 256 ∧ σ 2 k = t k) ∧ Tp t (σ 704) n
/-- what was seen and what is to be asked, on both sides -/
def IvN (P : Pm) (σ : Mm) : Prop := (∃ n, n ≤ 20 ∧ σ 695 3 = nI n ∧ σ 703 62 = nI n ∧ ∀ k, k < n → (sm 30 (σ 696 k) ∧ 0 < ix (σ 696 k)) ∧ sm 20 (σ 697 k) ∧ σ 696 k = σ 731 k ∧ σ 697 k = σ 732 k) ∧
  ∃ n, n ≤ 60 ∧ σ 699 3 = nI n ∧ σ 703 66 = nI n ∧ ∀ k, k < n → sm 5 (σ 700 k) ∧ ix (σ 700 k) < pn P ∧ sm 29 (σ 701 k) ∧ sm 20 (σ 702 k) ∧ σ 700 k = σ 733 k ∧ σ 701 k = σ 734 k ∧ σ 702 k = σ 735 k
/-- the image, on both sides -/
def IvI (P : Pm) (rc B : Nat) (σ : Mm) : Prop := σ 0 16 = σ 703 73 ∧ (σ 0 16 = 0 ∨ σ 0 16 = 1 ∧ 0 < pn P ∧ ∃ s, IvS P rc B 58 737 σ s ∧ s 0 3 = σ 703 71 ∧ (∀ k, k < pn P → σ 738 k = s 6 k) ∧ σ 703 72 = s 0 4 ∧ σ 703 272 = s 0 204)
/-- all that stays between two calls; days at most B -/
def Ivx (B : Nat) (P : Pm) (rc : Nat) (s σ : Mm) : Prop := IvT σ ∧ IvP P ∧ IvM P σ ∧ (σ 0 14 = nI rc ∧ σ 703 7 = nI rc ∧ rc ≤ 5 ∧ RuC P rc σ ∧ RuR P rc σ) ∧
  (IvS P rc B 27 714 σ s ∧ s 0 3 = σ 703 32 ∧ (∀ k, k < pn P → σ 716 k = s 6 k) ∧ σ 703 34 = s 0 4 ∧ σ 703 234 = s 0 204) ∧
  (σ 0 15 = σ 703 33 ∧ sm 100 (σ 0 15)) ∧ IvI P rc B σ ∧ IvN P σ
def Iv (B : Nat) (σ : Mm) : Prop := ∃ (P : Pm) (rc : Nat) (s : Mm), Ivx B P rc s σ
/-- what a question leaves alone -/
def FrS (σ τ : Mm) : Prop := (∀ c, (c ≤ 10 ∨ 12 ≤ c ∧ c < 37 ∧ ¬ stk c ∨ 58 ≤ c ∧ c ≤ 67 ∨ 695 ≤ c ∧ c ≤ 702 ∨ 704 ≤ c ∧ c ≤ 706 ∨ 708 ≤ c ∧ c ≤ 710 ∨ c = 716 ∨ 731 ≤ c ∧ c ≤ 735 ∨ 737 ≤ c ∧ c ≤ 738) → τ c = σ c) ∧
  (∀ k, k < 57 → τ 714 k = σ 714 k) ∧ ∀ k, (k = 6 ∨ k = 7 ∨ k = 24 ∨ k = 25 ∨ 32 ≤ k ∧ k ≤ 34 ∨ k = 234 ∨ k = 62 ∨ k = 66 ∨ 71 ≤ k ∧ k ≤ 73 ∨ k = 272) → τ 703 k = σ 703 k
theorem FrS.refl {σ : Mm} : FrS σ σ := ⟨fun _ _ => rfl, fun _ _ => rfl, fun _ _ => rfl⟩
theorem FrS.trans {σ τ υ : Mm} (h : FrS σ τ) (h2 : FrS τ υ) : FrS σ υ := ⟨fun c a => (h2.1 c a).trans (h.1 c a), fun k a => (h2.2.1 k a).trans (h.2.1 k a), fun k a => (h2.2.2 k a).trans (h.2.2 k a)⟩
theorem RRs.row {P : Pm} {σ τ s : Mm} (hn : pn P ≤ 5) (hm : pm P ≤ 6) (h : RRs P σ s) (f : ∀ k, k < 57 → τ 714 k = σ 714 k) : RRs P τ s := by
  obtain ⟨h1, h2, h3, h4, h5, h6⟩ := h
  refine ⟨fun k hk => ?_, by rw [f 54 (by omega)]; exact h2, by rw [f 55 (by omega)]; exact h3, by rw [f 56 (by omega)]; exact h4, fun i k hi hk => by rw [f _ (by omega)]; exact h5 i k hi hk, fun j h1 h2 => by rw [f _ (by omega)]; exact h6 j h1 h2⟩
  rw [f k (by omega), f (6 + k) (by omega), f (12 + k) (by omega), f (18 + k) (by omega), f (24 + k) (by omega)]; exact h1 k hk
theorem FrS.m {P : Pm} {σ τ : Mm} (h : IvM P σ) (f : FrS σ τ) : IvM P τ := by
  obtain ⟨h1, h2, h3, h4, h5, h6, h7, h8⟩ := h
  obtain ⟨f1, f2, f3⟩ := f
  refine ⟨by rw [f1 3 (by omega)]; exact h1, by rw [f1 3 (by omega)]; exact h2, by rw [f3 24 (by omega)]; exact h3, by rw [f3 25 (by omega)]; exact h4, ?_, fun k hk => ?_, fun i hi => ?_, fun k a b => by rw [f1 4 (by omega), f1 5 (by omega), f1 6 (by omega)]; exact h8 k a b⟩
  · rw [f1 3 (by omega), f1 710 (by omega)]; exact h5
  · rw [f1 4 (by omega), f1 5 (by omega), f1 6 (by omega), f1 708 (by omega)]; exact h6 k hk
  · rw [f1 7 (by omega), f1 8 (by omega), f1 9 (by omega), f1 10 (by omega), f1 709 (by omega)]; exact h7 i hi
theorem FrS.n {P : Pm} {σ τ : Mm} (h : IvN P σ) (f : FrS σ τ) : IvN P τ := by
  obtain ⟨⟨n, h1, h2, h3, h4⟩, ⟨m, g1, g2, g3, g4⟩⟩ := h
  obtain ⟨f1, f2, f3⟩ := f
  refine ⟨⟨n, h1, by rw [f1 695 (by omega)]; exact h2, by rw [f3 62 (by omega)]; exact h3, fun k hk => ?_⟩, ⟨m, g1, by rw [f1 699 (by omega)]; exact g2, by rw [f3 66 (by omega)]; exact g3, fun k hk => ?_⟩⟩
  · rw [f1 696 (by omega), f1 697 (by omega), f1 731 (by omega), f1 732 (by omega)]; exact h4 k hk
  · rw [f1 700 (by omega), f1 701 (by omega), f1 702 (by omega), f1 733 (by omega), f1 734 (by omega), f1 735 (by omega)]; exact g4 k hk
theorem FrS.t {σ τ : Mm} (h : IvT σ) (f : FrS σ τ) : IvT τ := by
  obtain ⟨n, t, h1, h2, h3, h4, h5⟩ := h
  obtain ⟨f1, f2, f3⟩ := f
  exact ⟨n, t, h1, by rw [f1 1 (by omega)]; exact h2, by rw [f3 6 (by omega)]; exact h3, fun k hk => by rw [f1 2 (by omega)]; exact h4 k hk, by rw [f1 704 (by omega)]; exact h5⟩
theorem FrS.i {P : Pm} {rc B : Nat} {σ τ : Mm} (hn : pn P ≤ 5) (hm : pm P ≤ 6) (h : IvI P rc B σ) (f : FrS σ τ) : IvI P rc B τ := by
  obtain ⟨h1, h2⟩ := h
  obtain ⟨f1, f2, f3⟩ := f
  refine ⟨by rw [f1 0 (by omega), f3 73 (by omega)]; exact h1, ?_⟩
  rw [f1 0 (by omega)]
  refine h2.imp id (fun h => ⟨h.1, h.2.1, ?_⟩)
  obtain ⟨s, ⟨s1, s2, s3⟩, s4, s5, s6, s7⟩ := h.2.2
  refine ⟨s, ⟨s1.fr (fun c a b => f1 c (by omega)), s2.row hn hm (fun k hk => ?_), s3⟩, by rw [f3 71 (by omega)]; exact s4, fun k hk => by rw [f1 738 (by omega)]; exact s5 k hk, by rw [f3 72 (by omega)]; exact s6, by rw [f3 272 (by omega)]; exact s7⟩
  rw [wr_s, wr_s, f1 737 (by omega)]
theorem Ivx.fr {B : Nat} {P : Pm} {rc : Nat} {s σ τ : Mm} (h : Ivx B P rc s σ) (f : FrS σ τ) : Ivx B P rc s τ := by
  obtain ⟨h1, h2, h3, ⟨r1, r2, r3, r4, r5⟩, ⟨⟨s1, s2, s3⟩, s4, s5, s6, s7⟩, ⟨k1, k2⟩, h7, h8⟩ := h
  have hn := h2.1.1
  have hm := h2.1.2.1
  obtain ⟨f1, f2, f3⟩ := id f
  refine ⟨FrS.t h1 f, h2, FrS.m h3 f, ⟨by rw [f1 0 (by omega)]; exact r1, by rw [f3 7 (by omega)]; exact r2, r3, r4.of (fun r hr => ⟨f1 _ (Or.inr (Or.inl ⟨by omega, by omega, stk_n (by omega)⟩)), f1 _ (Or.inr (Or.inl ⟨by omega, by omega, stk_n (by omega)⟩))⟩), r5.of (f1 705 (by omega)) (fun r hr => by rw [f1 706 (by omega)])⟩,
    ⟨⟨s1.fr (fun c a b => f1 c (Or.inr (Or.inl ⟨by omega, by omega, stk_n (by omega)⟩))), s2.row hn hm (fun k hk => by rw [wr_s, wr_s]; exact f2 k hk), s3⟩, by rw [f3 32 (by omega)]; exact s4, fun k hk => by rw [f1 716 (by omega)]; exact s5 k hk, by rw [f3 34 (by omega)]; exact s6, by rw [f3 234 (by omega)]; exact s7⟩,
    ⟨by rw [f1 0 (by omega), f3 33 (by omega)]; exact k1, by rw [f1 0 (by omega)]; exact k2⟩, FrS.i hn hm h7 f, FrS.n h8 f⟩
theorem Iv.up {B B2 : Nat} {σ : Mm} (h : Iv B σ) (hB : B ≤ B2) : Iv B2 σ := by
  have key : ∀ {x : Int32}, sm B x → sm B2 x := fun h => ⟨h.1, by have := h.2; omega⟩
  obtain ⟨P, rc, s, h1, h2, h3, h4, ⟨⟨s1, s2, s3, s4, s5, s6⟩, s7⟩, h6, ⟨i1, i2⟩, h8⟩ := h
  refine ⟨P, rc, s, h1, h2, h3, h4, ⟨⟨s1, s2, s3, s4, key s5, s6⟩, s7⟩, h6, ⟨i1, i2.imp id (fun h => ⟨h.1, h.2.1, ?_⟩)⟩, h8⟩
  obtain ⟨s, ⟨t1, t2, t3, t4, t5, t6⟩, t7⟩ := h.2.2
  exact ⟨s, ⟨t1, t2, t3, t4, key t5, t6⟩, t7⟩
