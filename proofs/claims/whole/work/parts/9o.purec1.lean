/-! ===== fits ===== -/
def mxs (f : Nat → Int32) : Nat → Nat
  | 0 => 0
  | k + 1 => max (mxs f k) (ix (f k))
theorem mxs_le {f : Nat → Int32} : ∀ {n : Nat}, (∀ k, k < n → sm 30 (f k)) → mxs f n ≤ 30 := by
  intro n
  induction n with
  | zero => intro _; exact Nat.zero_le _
  | succ n ih =>
    intro h
    have a := ih (fun k hk => h k (by omega))
    have b := (h n (by omega)).2
    show max (mxs f n) (ix (f n)) ≤ 30
    omega
theorem mxs_ge {f : Nat → Int32} : ∀ {n k : Nat}, k < n → ix (f k) ≤ mxs f n := by
  intro n
  induction n with
  | zero => intro k h; exact absurd h (Nat.not_lt_zero k)
  | succ n ih =>
    intro k h
    show ix (f k) ≤ max (mxs f n) (ix (f n))
    by_cases e : k = n
    · subst e; omega
    · have := ih (k := k) (by omega); omega
/-- whether all boards seen fit, if v held back -/
def fitQ (P : Pm) (s : Mm) (v : Int32) (f g : Nat → Int32) (N : Nat) : Prop := ∀ k, k < N → dys P (zst s 0 3 v) (ix (f k)) 0 0 = g k
theorem c_seen22 {σ : Mm} {N : Nat} {f : Nat → Int32} {K : Int32 → Mm → Option (Int32 × Mm)} {Q : Int32 × Mm → Prop} (hN : N ≤ 20) (h3 : σ 695 3 = nI N) (hf : ∀ k, k < N → σ 696 k = f k ∧ sm 30 (f k))
    (hK : Ok (K (nI (mxs f N)) σ) Q) : Ok (zfX11_isSeenBy_L22 K NF 0 0 σ) Q := by
  refine ok_up (F := fun fu (x : Int32 × Int32) => zfX11_isSeenBy_L22 K fu x.1 x.2 σ) N (fun j x => x.1 = nI (mxs f j) ∧ x.2 = nI j) ?_ ?_ 0 NF (0, 0) ⟨rfl, rfl⟩ (by omega) (by unfold NF; omega)
  · rintro j fu ⟨a, y⟩ hj ⟨ha, hy⟩ hk
    have ha : a = nI (mxs f j) := ha
    have hy : y = nI j := hy
    subst ha hy
    show Ok (zfX11_isSeenBy_L22 K (fu + 1) (nI (mxs f j)) (nI j) σ) Q
    unfold zfX11_isSeenBy_L22
    have hj2 := hf j hj
    have h1 := mxs_le (f := f) (n := j) (fun k hk => (hf k (by omega)).2)
    have h2 := hj2.2.2
    rw [if_neg (by rw [h3, n_le (by omega) (by omega)]; omega), ck_t ((n_in (by omega)).mpr (by omega)), n_ix (by omega), hj2.1, hj2.2.1, n_zmax (by omega) (by omega)]
    refine ok_lg (fun a2 ea => ?_)
    refine ok_lg (fun y2 ey => ?_)
    rw [show nI j + 1 = nI (j + 1) from n_add _ 1] at ey
    exact hk (a2, y2) ⟨ea, ey⟩
  · rintro fu ⟨a, y⟩ ⟨ha, hy⟩
    have ha : a = nI (mxs f N) := ha
    have hy : y = nI N := hy
    subst ha hy
    show Ok (zfX11_isSeenBy_L22 K (fu + 1) (nI (mxs f N)) (nI N) σ) Q
    unfold zfX11_isSeenBy_L22
    rw [if_pos (by rw [h3]; exact Int32.le_refl _)]
    exact hK
theorem c_seen70 {τ : Mm} {N dd : Nat} {b : Int32} {f g : Nat → Int32} {K1 K2 : Mm → Option (Int32 × Mm)} {Q : Int32 × Mm → Prop} (hN : N ≤ 20) (hd : dd ≤ 40) (h3 : τ 695 3 = nI N) (hf : ∀ k, k < N → τ 696 k = f k ∧ sm 30 (f k) ∧ τ 697 k = g k) (hb : τ 69 0 = b)
    (hK1 : (∀ k, k < N → ix (f k) = dd → b = g k) → Ok (K1 τ) Q) (hK2 : (∃ k, k < N ∧ ix (f k) = dd ∧ ¬ b = g k) → Ok (K2 τ) Q) : Ok (zfX11_isSeenBy_L70 K1 (nI dd) K2 NF 0 τ) Q := by
  refine ok_up (F := fun fu (x : Int32) => zfX11_isSeenBy_L70 K1 (nI dd) K2 fu x τ) N (fun j x => x = nI j ∧ ∀ k, k < j → ix (f k) = dd → b = g k) ?_ ?_ 0 NF 0 ⟨rfl, fun k hk => absurd hk (Nat.not_lt_zero k)⟩ (by omega) (by unfold NF; omega)
  · rintro j fu y hj ⟨hy, ha⟩ hk
    subst hy
    show Ok (zfX11_isSeenBy_L70 K1 (nI dd) K2 (fu + 1) (nI j) τ) Q
    unfold zfX11_isSeenBy_L70
    have hin : inb (nI j) 20 := (n_in (by omega)).mpr (by omega)
    obtain ⟨f1, f2, f3⟩ := hf j hj
    rw [if_neg (by rw [h3, n_le (by omega) (by omega)]; omega), ck_t hin]
    refine ok_lg (fun J hJ => ?_)
    have go : (ix (f j) = dd → b = g j) → Ok (J τ) Q := fun h => by
      simp only [hJ]
      refine ok_lg (fun y2 ey => ?_)
      rw [show nI j + 1 = nI (j + 1) from n_add _ 1] at ey
      refine hk y2 ⟨ey, fun k hk2 h2 => ?_⟩
      by_cases e : k = j
      · subst e; exact h h2
      · exact ha k (by omega) h2
    rw [n_ix (by omega), f1, f2.1]
    have hle := f2.2
    by_cases c : ix (f j) = dd
    · rw [if_pos (by rw [c]), ck_t hin, f3, hb]
      by_cases c2 : g j = b
      · rw [if_pos c2]; exact go (fun _ => c2.symm)
      · rw [if_neg c2]; exact hK2 ⟨j, hj, c, fun h => c2 h.symm⟩
    · rw [if_neg (show ¬ nI (ix (f j)) = nI dd by rw [n_eq (by omega) (by omega)]; exact c)]
      exact go (fun h => absurd h c)
  · rintro fu y ⟨hy, ha⟩
    subst hy
    show Ok (zfX11_isSeenBy_L70 K1 (nI dd) K2 (fu + 1) (nI N) τ) Q
    unfold zfX11_isSeenBy_L70
    rw [if_pos (by rw [h3]; exact Int32.le_refl _)]
    exact hK1 ha
theorem c_seenBy {B : Nat} {P : Pm} {rc N : Nat} {s σ : Mm} {f g : Nat → Int32} {v : Int32} (hB : B < 900000) (hI : Ivx B P rc s σ) (h0 : 0 < pn P) (hN : N ≤ 20) (h3 : σ 695 3 = nI N) (hf : ∀ k, k < N → σ 696 k = f k ∧ (sm 30 (f k) ∧ 0 < ix (f k)) ∧ σ 697 k = g k) :
    Ok (zfX11_isSeenBy v σ) (fun a => FrS σ a.2 ∧ ((a.1 = 0 ∧ ¬ fitQ P s v f g N) ∨ (a.1 = 1 ∧ fitQ P s v f g N))) := by
  obtain ⟨h1, h2, h3', ⟨r1, r2, r3, r4, r5⟩, ⟨hS, s4⟩, h6⟩ := id hI
  unfold zfX11_isSeenBy
  rw [ok_bd]
  refine ok_mono (cq_begin h2 h3' r4 hS h0) (fun τ hτ => ?_)
  obtain ⟨b1, b2, b3, b4, b5⟩ := hτ
  obtain ⟨s1, s2, s3, t4, t5, t6⟩ := hS
  have w := hS_wf (v := v) s3 t4 t5
  refine ok_lg (fun τ1 e1 => ?_)
  have q1 : ∀ c, c ≠ 69 → τ1 c = τ c := fun c hc => by rw [e1, zst_n hc]
  have A1 : AgS 69 τ1 (zst s 0 3 v) := hS_Ag b1 (fun k hk => by rw [e1, zst_k hk]) (by rw [e1, zst_v]) (fun c h1 h2 => q1 c (by omega))
  have C1 : PmC P τ1 := b3.of (fun c hc => q1 c (by omega))
  have R1 : RuC P rc τ1 := b4.of (fun r hr => ⟨q1 _ (by omega), q1 _ (by omega)⟩)
  have fr1 : FrS σ τ1 := b5.trans ⟨fun c hc => q1 c (by omega), fun k _ => by rw [q1 714 (by omega)], fun k _ => by rw [q1 703 (by omega)]⟩
  refine ok_lg (fun K1 hK1 => ?_)
  have hmx := mxs_le (f := f) (n := N) (fun k hk => (hf k hk).2.1.1)
  refine c_seen22 hN (by rw [fr1.1 695 (by omega)]; exact h3) (fun k hk => ⟨by rw [fr1.1 696 (by omega)]; exact (hf k hk).1, (hf k hk).2.1.1⟩) ?_
  simp only [hK1]
  refine ok_lg (fun K2 hK2 => ?_)
  refine ok_lg (fun K3 hK3 => ?_)
  refine ok_up (F := fun fu (x : Int32 × Mm) => zfX11_isSeenBy_L55 (nI (mxs f N)) K3 K2 fu x.1 x.2) (mxs f N) (fun j x => x.1 = nI (j + 1) ∧ AgS 69 x.2 (dys P (zst s 0 3 v) j) ∧ FrC τ1 x.2 ∧ ∀ k, k < N → ix (f k) ≤ j → dys P (zst s 0 3 v) (ix (f k)) 0 0 = g k) ?_ ?_ 0 NF (1, τ1) ⟨rfl, A1, FrC.refl, fun k hk h => by have := (hf k hk).2.1.2; omega⟩ (by omega) (by unfold NF; omega)
  · rintro j fu ⟨y, τ⟩ hj ⟨hy, g1, g2, g3⟩ hk
    have hy : y = nI (j + 1) := hy
    subst hy
    have g1 : AgS 69 τ (dys P (zst s 0 3 v) j) := g1
    have g2 : FrC τ1 τ := g2
    have g3 : ∀ k, k < N → ix (f k) ≤ j → dys P (zst s 0 3 v) (ix (f k)) 0 0 = g k := g3
    show Ok (zfX11_isSeenBy_L55 (nI (mxs f N)) K3 K2 (fu + 1) (nI (j + 1)) τ) _
    unfold zfX11_isSeenBy_L55
    rw [if_neg (by rw [n_lt (by omega) (by omega)]; omega), ok_bd]
    refine ok_mono (c_step h2.1 (dys_wf h2.1 w.1 w.2.2 hB j (by omega)).1 (dys_ru w.2.1 j) g1 (C1.fr g2) (R1.fr t4.1 g2)) (fun φ hφ => ?_)
    obtain ⟨d1, d2, d3, d4⟩ := hφ
    have f2 := g2.trans d3
    have frφ : FrS σ φ := fr1.trans f2.s
    refine ok_lg (fun K4 hK4 => ?_)
    refine ok_lg (fun K5 hK5 => ?_)
    refine c_seen70 (dd := j + 1) (b := dys P (zst s 0 3 v) (j + 1) 0 0) (f := f) (g := g) hN (by omega) (by rw [frφ.1 695 (by omega)]; exact h3) (fun k hk => ⟨by rw [frφ.1 696 (by omega)]; exact (hf k hk).1, (hf k hk).2.1.1, by rw [frφ.1 697 (by omega)]; exact (hf k hk).2.2⟩) (d1.1 0 (by omega)) (fun h => ?_) (fun h => ?_)
    · simp only [hK5]
      refine ok_lg (fun y2 ey => ?_)
      rw [show nI (j + 1) + 1 = nI (j + 1 + 1) from n_add _ 1] at ey
      refine hk (y2, φ) ⟨ey, d1, f2, fun k hk2 hle => ?_⟩
      by_cases e : ix (f k) = j + 1
      · rw [e]; exact h k hk2 e
      · exact g3 k hk2 (by omega)
    · simp only [hK4, hK2]
      rw [ok_s]
      obtain ⟨k, k1, k2, k3⟩ := h
      exact ⟨frφ, Or.inl ⟨rfl, fun hq => k3 (by rw [← k2]; exact hq k k1)⟩⟩
  · rintro fu ⟨y, τ⟩ ⟨hy, g1, g2, g3⟩
    have hy : y = nI (mxs f N + 1) := hy
    subst hy
    have g2 : FrC τ1 τ := g2
    have g3 : ∀ k, k < N → ix (f k) ≤ mxs f N → dys P (zst s 0 3 v) (ix (f k)) 0 0 = g k := g3
    show Ok (zfX11_isSeenBy_L55 (nI (mxs f N)) K3 K2 (fu + 1) (nI (mxs f N + 1)) τ) _
    unfold zfX11_isSeenBy_L55
    rw [if_pos (by rw [n_lt (by omega) (by omega)]; omega)]
    simp only [hK3]
    rw [ok_s]
    exact ⟨fr1.trans g2.s, Or.inr ⟨rfl, fun k hk => g3 k hk (mxs_ge hk)⟩⟩
/-! counts of sets that fit -/
noncomputable def fcn (p : Nat → Prop) : Nat → Nat
  | 0 => 0
  | m + 1 => @ite Nat (p m) (Classical.propDecidable _) (fcn p m + 1) (fcn p m)
noncomputable def frs (p : Nat → Prop) (x : Int32) : Nat → Int32
  | 0 => -1
  | m + 1 => @ite Int32 (p m ∧ nI (fcn p m) = x) (Classical.propDecidable _) (nI m) (frs p x m)
theorem fcn_le {p : Nat → Prop} : ∀ m, fcn p m ≤ m := by
  intro m
  induction m with
  | zero => exact Nat.le_refl _
  | succ m ih => unfold fcn; split <;> omega
theorem fcn_t {p : Nat → Prop} {m : Nat} (h : p m) : fcn p (m + 1) = fcn p m + 1 := if_pos h
theorem fcn_f {p : Nat → Prop} {m : Nat} (h : ¬ p m) : fcn p (m + 1) = fcn p m := if_neg h
theorem frs_t {p : Nat → Prop} {x : Int32} {m : Nat} (h : p m ∧ nI (fcn p m) = x) : frs p x (m + 1) = nI m := if_pos h
theorem frs_f {p : Nat → Prop} {x : Int32} {m : Nat} (h : ¬ (p m ∧ nI (fcn p m) = x)) : frs p x (m + 1) = frs p x m := if_neg h
theorem frs_on {p : Nat → Prop} {x : Int32} {m : Nat} (hm : m < 100000) (h : p m ∧ nI (fcn p m) = x) : ∀ r, m + 1 + r < 100000 → frs p x (m + 1 + r) = nI m ∧ fcn p m < fcn p (m + 1 + r) := by
  intro r
  induction r with
  | zero => intro _; exact ⟨frs_t h, by rw [Nat.add_zero, fcn_t h.1]; omega⟩
  | succ r ih =>
    intro hr
    obtain ⟨i1, i2⟩ := ih (by omega)
    have hl := fcn_le (p := p) (m + 1 + r)
    have hl2 := fcn_le (p := p) m
    refine ⟨?_, ?_⟩
    · rw [show m + 1 + (r + 1) = m + 1 + r + 1 by omega, frs_f (fun q => ?_), i1]
      have := q.2.trans h.2.symm
      rw [n_eq (by omega) (by omega)] at this
      omega
    · rw [show m + 1 + (r + 1) = m + 1 + r + 1 by omega]
      by_cases c : p (m + 1 + r)
      · rw [fcn_t c]; omega
      · rw [fcn_f c]; exact i2
