/-! ===== the class walks on ===== -/
noncomputable def nDay (P : Pm) (s : Mm) (N : Nat → Int32) : Nat → Int32 :=
  let M := nG (anyG (dgl P 0 s) (pbr P) (pn P)) (nC (dG P s) (s 0 3) (dA P 0 s) (pn P) (nB (if (dU P 0 s).1 = 0 then 1 else 0) (dayS P 0 s 0 0) N))
  upd M 13 (M 13 + 1)
noncomputable def nts (P : Pm) (s : Mm) (N : Nat → Int32) : Nat → (Nat → Int32)
  | 0 => N
  | j + 1 => nDay P (dys P s j) (nts P s N j)
/-- what a walk may change -/
def FrC (σ τ : Mm) : Prop := (∀ k, k ≠ 6 → k ≠ 8 → τ 37 k = σ 37 k) ∧ ∀ c, (c < 39 ∨ 42 < c ∧ c < 68 ∨ 78 < c) → c ≠ 37 → ¬ stk c → τ c = σ c
theorem FrC.refl {σ : Mm} : FrC σ σ := ⟨fun _ _ _ => rfl, fun _ _ _ _ => rfl⟩
theorem FrC.trans {σ τ υ : Mm} (h : FrC σ τ) (h2 : FrC τ υ) : FrC σ υ := ⟨fun k a b => (h2.1 k a b).trans (h.1 k a b), fun c a b d => (h2.2 c a b d).trans (h.2 c a b d)⟩
theorem stk_n {c : Nat} (h : c < 12 ∨ 27 ≤ c ∨ c % 3 ≠ 2) : ¬ stk c := fun x => by unfold stk at x; omega
theorem PmC.fr {P : Pm} {σ τ : Mm} (h : PmC P σ) (f : FrC σ τ) : PmC P τ := by
  obtain ⟨h1, h2, h3, h4, h5, h6, h7⟩ := h
  obtain ⟨f1, f2⟩ := f
  have q : ∀ c, 3 ≤ c → c ≤ 10 ∨ c = 38 → τ c = σ c := fun c a b => f2 c (by omega) (by omega) (stk_n (by omega))
  refine ⟨by rw [q 3 (by omega) (by omega)]; exact h1, by rw [q 3 (by omega) (by omega)]; exact h2, by rw [q 3 (by omega) (by omega)]; exact h3, by rw [f1 4 (by omega) (by omega)]; exact h4, by rw [f1 5 (by omega) (by omega)]; exact h5, fun k hk => ?_, fun i hi => ?_⟩
  · rw [q 4 (by omega) (by omega), q 5 (by omega) (by omega), q 6 (by omega) (by omega), q 38 (by omega) (by omega)]; exact h6 k hk
  · rw [q 7 (by omega) (by omega), q 8 (by omega) (by omega), q 9 (by omega) (by omega), q 10 (by omega) (by omega)]; exact h7 i hi
theorem RuC.of {P : Pm} {rc : Nat} {σ τ : Mm} (h : RuC P rc σ) (f : ∀ r, r < rc → τ (12 + 3 * r) = σ (12 + 3 * r) ∧ τ (13 + 3 * r) = σ (13 + 3 * r)) : RuC P rc τ := fun r hr υ h1 h2 h3 => h r hr υ (h1.trans (f r hr).1) (h2.trans (f r hr).2) h3
theorem RuC.fr {P : Pm} {rc : Nat} {σ τ : Mm} (h : RuC P rc σ) (hrc : rc ≤ 5) (f : FrC σ τ) : RuC P rc τ :=
  h.of (fun r hr => ⟨f.2 _ (by omega) (by omega) (stk_n (by omega)), f.2 _ (by omega) (by omega) (stk_n (by omega))⟩)
theorem c_step {P : Pm} {s σ : Mm} {rc : Nat} (hP : WFp P) (hs : WFs P s) (hRs : RuS P rc s) (hA : AgS 69 σ s) (hC : PmC P σ) (hR : RuC P rc σ) :
    Ok (zfX10_step σ) (fun τ => AgS 69 τ (dayS P 0 s) ∧ τ 68 = nDay P s (σ 68) ∧ FrC σ τ ∧ (∀ k, k < pN P → τ 39 k = nI (dG P s k)) ∧ τ 37 6 = (if (dU P 0 s).1 = 0 then 1 else 0)) := by
  have hdG := dG_le (P := P) hs
  have hgl : ∀ k, dgl P 0 s k ≤ 99 := fun k => by have := hdG k; unfold dgl; omega
  unfold zfX10_step
  rw [ok_bd]
  refine ok_mono (c_day (f := 0) (q := 69) (by omega) (by omega) hP hs hRs hA hC hR) (fun τ1 h1 => ?_)
  obtain ⟨b1, b2, b3, b4, b5⟩ := h1
  obtain ⟨p1, p2, p3, p4, p5, p6, p7, p8, p9⟩ := hP
  have u3 : τ1 3 0 = nI (pn P) := by rw [b5 3 (by omega) (by omega) (by omega) (by omega) (by omega) (by omega) (stk_n (by omega))]; exact hC.1
  have ag := b1
  obtain ⟨a1, a2, a3, a4, a5⟩ := ag
  rw [ok_bd]
  refine ok_mono c_nB (fun τ2 h2 => ?_)
  have e2 : ∀ c, c ≠ 68 → τ2 c = τ1 c := fun c hc => by rw [h2, wr_n hc]
  have v2 : τ2 68 = nB (if (dU P 0 s).1 = 0 then 1 else 0) (dayS P 0 s 0 0) (σ 68) := by
    rw [h2, wr_s, b2, a1 0 (by omega), b5 68 (by omega) (by omega) (by omega) (by omega) (by omega) (by omega) (stk_n (by omega))]
  rw [ok_bd]
  refine ok_mono (c_nC (n := pn P) (g := dG P s) (ask := dA P 0 s) (by omega) (by rw [e2 3 (by omega)]; exact u3) (fun k hk => ⟨by rw [e2 39 (by omega)]; exact b3 k (by omega), hdG k⟩) (fun k hk => ?_)) (fun τ3 h3 => ?_)
  · rw [e2 73 (by omega), a4 4 k (by omega) (by omega)]
    show (if k < pN P then dA P 0 s k else _) = _
    rw [if_pos (by omega)]
  have e3 : ∀ c, c ≠ 68 → τ3 c = τ1 c := fun c hc => by rw [h3, wr_n hc, e2 c hc]
  have v3 : τ3 68 = nC (dG P s) (s 0 3) (dA P 0 s) (pn P) (nB (if (dU P 0 s).1 = 0 then 1 else 0) (dayS P 0 s 0 0) (σ 68)) := by
    rw [h3, wr_s, v2, e2 69 (by omega), a1 3 (by omega), dayS_3]
  rw [ok_bd]
  refine ok_mono (c_nG (n := pn P) (g := dgl P 0 s) (b := pbr P) (by omega) (by rw [e3 3 (by omega)]; exact u3) (fun k hk => ?_)) (fun τ4 h4 => ?_)
  · refine ⟨?_, hgl k, ?_, by have := (p5 k (by omega)).1; omega⟩
    · rw [e3 71 (by omega), a4 2 k (by omega) (by omega)]
      show (if k < pN P then _ else _) = _
      rw [if_pos (by omega)]
    · rw [e3 4 (by omega), b5 4 (by omega) (by omega) (by omega) (by omega) (by omega) (by omega) (stk_n (by omega))]; exact (hC.2.2.2.2.2.1 k (by omega)).1
  have e4 : ∀ c, c ≠ 68 → τ4 c = τ1 c := fun c hc => by rw [h4, wr_n hc, e3 c hc]
  refine ok_lg (fun τ5 h5 => ?_)
  rw [ok_s]
  have e5 : ∀ c, c ≠ 68 → τ5 c = τ1 c := fun c hc => by rw [h5, zst_n hc, e4 c hc]
  refine ⟨⟨fun k hk => by rw [e5 69 (by omega)]; exact a1 k hk, by rw [e5 69 (by omega)]; exact a2, by rw [e5 69 (by omega)]; exact a3, fun i k hi hk => by rw [e5 (69 + i) (by omega)]; exact a4 i k hi hk, fun k hk => by rw [e5 (69 + 7) (by omega)]; exact a5 k hk⟩, ?_, ⟨fun k x1 x2 => by rw [e5 37 (by omega)]; exact b4 k x1 x2, fun c x1 x2 x3 => by rw [e5 c (by omega)]; exact b5 c (by omega) x2 (by omega) (by omega) (by omega) (by omega) x3⟩, fun k hk => by rw [e5 39 (by omega)]; exact b3 k hk, by rw [e5 37 (by omega)]; exact b2⟩
  rw [h5, zst_s, h4, wr_s, v3]
  rfl
theorem c_pass {P : Pm} {s σ : Mm} {rc d B : Nat} (hP : WFp P) (hs : WFs P s) (hB : sm B (s 0 1)) (hB2 : B < 900000) (hRs : RuS P rc s) (hA : AgS 69 σ s) (hC : PmC P σ) (hR : RuC P rc σ) (hd : d ≤ 1000) :
    Ok (zfX10_pass (nI d) σ) (fun τ => AgS 69 τ (dys P s d) ∧ τ 68 = nts P s (σ 68) d ∧ FrC σ τ) := by
  unfold zfX10_pass
  refine ok_lg (fun K hK => ?_)
  refine ok_up (F := fun fu (s : Int32 × Mm) => zfX10_pass_L2 (nI d) K fu s.1 s.2) d (fun i x => x.1 = nI i ∧ AgS 69 x.2 (dys P s i) ∧ x.2 68 = nts P s (σ 68) i ∧ FrC σ x.2) ?_ ?_ 0 NF (0, σ) ⟨rfl, hA, rfl, FrC.refl⟩ (by omega) (by unfold NF; omega)
  · rintro i fu ⟨y, τ⟩ hi ⟨hy, h1, h2, h3⟩ hk
    have hy : y = nI i := hy
    subst hy
    have h1 : AgS 69 τ (dys P s i) := h1
    have h2 : τ 68 = nts P s (σ 68) i := h2
    have h3 : FrC σ τ := h3
    show Ok (zfX10_pass_L2 (nI d) K (fu + 1) (nI i) τ) _
    unfold zfX10_pass_L2
    rw [if_neg (by rw [n_le (by omega) (by omega)]; omega), ok_bd]
    refine ok_mono (c_step hP (dys_wf hP hs hB hB2 i (by omega)).1 (dys_ru hRs i) h1 (hC.fr h3) (hR.fr hRs.1 h3)) (fun φ hφ => ?_)
    obtain ⟨g1, g2, g3, g4⟩ := hφ
    refine ok_lg (fun x hx => ?_)
    rw [show nI i + 1 = nI (i + 1) from n_add _ 1] at hx
    subst hx
    exact hk (nI (i + 1), φ) ⟨rfl, g1, by dsimp only; rw [g2, h2]; rfl, h3.trans g3⟩
  · rintro fu ⟨y, τ⟩ ⟨hy, h1, h2, h3⟩
    have hy : y = nI d := hy
    subst hy
    show Ok (zfX10_pass_L2 (nI d) K (fu + 1) (nI d) τ) _
    unfold zfX10_pass_L2
    rw [if_pos (Int32.le_refl _), hK, ok_s]
    exact ⟨h1, h2, h3⟩
theorem c_begin6 {σ : Mm} : Ok (zfX6_begin σ) (fun τ => τ 37 5 = σ 3 0 ∧ τ 37 4 = σ 3 3 ∧ (∀ k, k ≠ 4 → k ≠ 5 → τ 37 k = σ 37 k) ∧ (∀ k, k < 6 → τ 38 k = -1) ∧ ∀ c, c ≠ 37 → c ≠ 38 → τ c = σ c) := by
  unfold zfX6_begin
  refine ok_lg (fun t1 h1 => ?_)
  refine ok_lg (fun t2 h2 => ?_)
  refine ok_lg (fun K hK => ?_)
  refine ok_up (F := fun fu (s : Int32 × Mm) => zfX6_begin_L24 K fu s.1 s.2) 6 (fun i x => x.1 = nI i ∧ (∀ k, k < i → x.2 38 k = -1) ∧ ∀ c, c ≠ 38 → x.2 c = t2 c) ?_ ?_ 0 NF (0, t2) ⟨rfl, fun k hk => absurd hk (Nat.not_lt_zero k), fun _ _ => rfl⟩ (by omega) (by unfold NF; omega)
  · rintro i fu ⟨y, τ⟩ hi ⟨hy, i1, i2⟩ hk
    have hy : y = nI i := hy
    subst hy
    have i1 : ∀ k, k < i → τ 38 k = -1 := i1
    have i2 : ∀ c, c ≠ 38 → τ c = t2 c := i2
    show Ok (zfX6_begin_L24 K (fu + 1) (nI i) τ) _
    unfold zfX6_begin_L24
    rw [if_neg (by rw [show (6 : Int32) = nI 6 from rfl, n_le (by decide) (by omega)]; omega), ck_t ((n_in (by omega)).mpr (by omega)), ok_lt, ok_lt, n_ix (by omega), show nI i + 1 = nI (i + 1) from n_add _ 1]
    refine hk (nI (i + 1), zst τ 38 i (-1)) ⟨rfl, fun j hj => ?_, fun c hc => by dsimp only; rw [zst_n hc]; exact i2 c hc⟩
    dsimp only
    by_cases e : j = i
    · subst e; rw [zst_v]
    · rw [zst_k e]; exact i1 j (by omega)
  · rintro fu ⟨y, τ⟩ ⟨hy, i1, i2⟩
    have hy : y = nI 6 := hy
    subst hy
    have i1 : ∀ k, k < 6 → τ 38 k = -1 := i1
    have i2 : ∀ c, c ≠ 38 → τ c = t2 c := i2
    show Ok (zfX6_begin_L24 K (fu + 1) (nI 6) τ) _
    unfold zfX6_begin_L24
    rw [if_pos (by decide), hK, ok_s, i2 37 (by omega)]
    refine ⟨by rw [h2, zst_k (by omega), h1, zst_v], by rw [h2, zst_v, h1, zst_n (by omega)], fun k a b => by rw [h2, zst_k a, h1, zst_k b], i1, fun c a b => by rw [i2 c b, h2, zst_n a, h1, zst_n a]⟩
def n0 (b : Int32) (R : Nat → Int32) : Nat → Int32 := upd (upd (upd (upd (upd (upd (upd (upd (upd (upd R 4 0) 5 0) 6 b) 7 b) 8 b) 9 0) 10 0) 11 (-1)) 12 (-1)) 13 0
theorem AgS.fr {q : Nat} {σ τ s : Mm} (h : AgS q σ s) (f : ∀ c, q ≤ c → c ≤ q + 9 → τ c = σ c) : AgS q τ s := by
  obtain ⟨a1, a2, a3, a4, a5⟩ := h
  exact ⟨fun k hk => by rw [f q (by omega) (by omega)]; exact a1 k hk, by rw [f q (by omega) (by omega)]; exact a2, by rw [f q (by omega) (by omega)]; exact a3, fun i k hi hk => by rw [f _ (by omega) (by omega)]; exact a4 i k hi hk, fun k hk => by rw [f _ (by omega) (by omega)]; exact a5 k hk⟩
theorem c_begin {σ s : Mm} (hA : AgS 27 σ s) : Ok (zfX10_begin σ) (fun τ => AgS 69 τ s ∧ τ 68 = n0 (s 0 0) (σ 68) ∧ τ 37 5 = σ 3 0 ∧ τ 37 4 = σ 3 3 ∧ (∀ k, k ≠ 4 → k ≠ 5 → τ 37 k = σ 37 k) ∧ (∀ k, k < 6 → τ 38 k = -1) ∧ ∀ c, (c < 68 ∨ 78 < c) → c ≠ 37 → c ≠ 38 → τ c = σ c) := by
  unfold zfX10_begin
  rw [ok_bd]
  refine ok_mono (c_copy (q0 := 69) (q1 := 27) (by omega) hA) (fun τ1 h1 => ?_)
  obtain ⟨b1, b2⟩ := h1
  rw [ok_bd]
  refine ok_mono c_begin6 (fun τ2 h2 => ?_)
  obtain ⟨c1, c2, c3, c4, c5⟩ := h2
  have u0 : τ2 69 0 = s 0 0 := by rw [c5 69 (by omega) (by omega)]; exact b1.1 0 (by omega)
  simp only [lt_p]
  rw [ok_s]
  simp only [zst_wr, wr_s, wr_wr, wr_n (show (69 : Nat) ≠ 68 by omega), u0]
  have q : ∀ c r, c ≠ 68 → wr τ2 68 r c = τ2 c := fun c r hc => wr_n hc
  refine ⟨b1.fr (fun c x1 x2 => by rw [q c _ (by omega), c5 c (by omega) (by omega)]), ?_, ?_, ?_, fun k x1 x2 => ?_, fun k hk => ?_, fun c x1 x2 x3 => ?_⟩
  · rw [c5 68 (by omega) (by omega), b2 68 (by omega)]; rfl
  · rw [q 37 _ (by omega), c1, b2 3 (by omega)]
  · rw [q 37 _ (by omega), c2, b2 3 (by omega)]
  · rw [q 37 _ (by omega), c3 k x1 x2, b2 37 (by omega)]
  · rw [q 38 _ (by omega)]; exact c4 k hk
  · rw [q c _ (by omega), c5 c x2 x3, b2 c (by omega)]
