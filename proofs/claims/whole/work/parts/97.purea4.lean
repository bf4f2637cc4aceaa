/-! ===== a market that a text says can be ===== -/
def InB (g : Nat) (v : Int32) : Prop := ¬ v < zlo g ∧ v ≤ zhi g
theorem zus_in : ∀ g, g < 8 → InB g (zus g) := by
  intro g hg
  have : g = 0 ∨ g = 1 ∨ g = 2 ∨ g = 3 ∨ g = 4 ∨ g = 5 ∨ g = 6 ∨ g = 7 := by omega
  unfold InB
  rcases this with rfl | rfl | rfl | rfl | rfl | rfl | rfl | rfl <;> decide
theorem itms_in {t : Nat → Int32} {n κ : Nat} (hκ : κ < 3) : ∀ {F p p' : Nat} {V T V' : Nat → Int32}, (∀ g, g < 8 → InB g (V g)) → itms t n κ F p V T = .ok (p', V') → ∀ g, g < 8 → InB g (V' g) := by
  intro F
  induction F with
  | zero => intro p p' V T V' _ h; unfold itms at h; cases h
  | succ F ih =>
    intro p p' V T V' hV h
    unfold itms at h
    cases hg : itG κ (sg t n (skp t n p)) with
    | none =>
      rw [hg] at h
      dsimp only at h
      injection h with h
      injection h with h1 h2
      subst h2
      exact hV
    | some g =>
      rw [hg] at h
      dsimp only at h
      by_cases c : T g = 0
      case neg => rw [if_neg c] at h; cases h
      case pos =>
        rw [if_pos c] at h
        cases hm : nm2 t n (skp t n (skp t n p + 1)) with
        | error e => rw [hm] at h; dsimp only at h; cases h
        | ok y =>
          obtain ⟨p3, v⟩ := y
          rw [hm] at h
          dsimp only at h
          by_cases c1 : v < zlo g
          · rw [if_pos c1] at h; cases h
          · rw [if_neg c1] at h
            by_cases c2 : v ≤ zhi g
            · rw [if_pos c2] at h
              refine ih (fun j hj => ?_) h
              by_cases e : j = g
              · rw [e, upd_s]; exact ⟨c1, c2⟩
              · rw [upd_n e]; exact hV j hj
            · rw [if_neg c2] at h; cases h
/-- all that a market says is within its bounds -/
def MB (D : MD) : Prop := (∀ k, k < 3 * D.1.1 → InB (k % 3) (D.2.1 k)) ∧ (∀ k, k < 3 * D.1.2.1 → InB (3 + k % 3) (D.2.2.1 k)) ∧ ∀ k, k < 2 → InB (6 + k) (D.2.2.2 k)
theorem MB.z : MB D0 := ⟨fun k hk => absurd hk (Nat.not_lt_zero k), fun k hk => absurd hk (Nat.not_lt_zero k), fun k hk => zus_in _ (by omega)⟩
theorem MB.add {D : MD} {κ : Nat} {V : Nat → Int32} (h : MB D) (hV : ∀ g, g < 8 → InB g (V g)) : MB (adD D κ V) := by
  obtain ⟨h1, h2, h3⟩ := h
  unfold adD
  by_cases c : κ = 0
  · rw [if_pos c]
    refine ⟨fun k hk => ?_, h2, h3⟩
    have hk : k < 3 * (D.1.1 + 1) := hk
    show InB (k % 3) (if 3 * D.1.1 ≤ k then V (k - 3 * D.1.1) else D.2.1 k)
    by_cases e : 3 * D.1.1 ≤ k
    · rw [if_pos e, show k % 3 = k - 3 * D.1.1 by omega]; exact hV _ (by omega)
    · rw [if_neg e]; exact h1 k (by omega)
  · rw [if_neg c]
    by_cases c1 : κ = 1
    · rw [if_pos c1]
      refine ⟨h1, fun k hk => ?_, h3⟩
      have hk : k < 3 * (D.1.2.1 + 1) := hk
      show InB (3 + k % 3) (if 3 * D.1.2.1 ≤ k then V (3 + (k - 3 * D.1.2.1)) else D.2.2.1 k)
      by_cases e : 3 * D.1.2.1 ≤ k
      · rw [if_pos e, show k % 3 = k - 3 * D.1.2.1 by omega]; exact hV _ (by omega)
      · rw [if_neg e]; exact h2 k (by omega)
    · rw [if_neg c1]
      exact ⟨h1, h2, fun k hk => hV _ (by omega)⟩
theorem mk_in {t : Nat → Int32} {n : Nat} : ∀ {F p : Nat} {D D1 : MD}, MB D → mkS t n F p D = .ok D1 → MB D1 ∧ 0 < D1.1.1 ∧ 0 < D1.1.2.1 := by
  intro F
  induction F with
  | zero => intro p D D1 _ h; unfold mkS at h; cases h
  | succ F ih =>
    intro p D D1 hD h
    unfold mkS at h
    cases hc : clS t n p D with
    | error e => rw [hc] at h; dsimp only at h; cases h
    | ok y =>
      obtain ⟨p1, D2⟩ := y
      have hD2 : MB D2 := by
        unfold clS at hc
        cases hk : kdS D (sg t n (skp t n p)) with
        | none => rw [hk] at hc; dsimp only at hc; cases hc
        | some κ =>
          rw [hk] at hc
          dsimp only at hc
          have hκ : κ < 3 := by
            unfold kdS at hk
            repeat' split at hk
            all_goals first | (injection hk with hk; omega) | cases hk
          cases hi : itms t n κ 200 (skp t n p + 1) zus (fun _ => 0) with
          | error e => rw [hi] at hc; dsimp only at hc; cases hc
          | ok z =>
            obtain ⟨p4, V⟩ := z
            rw [hi] at hc
            dsimp only at hc
            injection hc with hc
            injection hc with e1 e2
            rw [← e2]
            exact hD.add (itms_in hκ zus_in hi)
      rw [hc] at h
      dsimp only at h
      by_cases c : sg t n (skp t n p1) = 59
      · rw [if_pos c] at h; exact ih hD2 h
      · rw [if_neg c] at h
        by_cases c2 : sg t n (skp t n p1) = -1 ∧ 0 < D2.1.1 ∧ 0 < D2.1.2.1
        · rw [if_pos c2] at h
          injection h with h
          subst h
          exact ⟨hD2, c2.2⟩
        · rw [if_neg c2] at h; cases h
theorem inB_sm {g B : Nat} {v : Int32} (h : InB g v) (hl : 0 ≤ (zlo g).toInt) (hh : (zhi g).toInt ≤ B) (hB : B < 2147483648) : sm B v := by
  obtain ⟨h1, h2⟩ := h
  rw [Int32.lt_iff_toInt_lt] at h1
  rw [Int32.le_iff_toInt_le] at h2
  exact sm_int hB (by omega) (by omega)
theorem zlo_0 : ∀ g, g < 8 → 0 ≤ (zlo g).toInt := by
  intro g hg
  have : g = 0 ∨ g = 1 ∨ g = 2 ∨ g = 3 ∨ g = 4 ∨ g = 5 ∨ g = 6 ∨ g = 7 := by omega
  rcases this with rfl | rfl | rfl | rfl | rfl | rfl | rfl | rfl <;> decide
theorem MB.s {D : MD} (h : MB D) {k : Nat} (hk : k < D.1.1) : sm 9 (D.2.1 (3 * k)) ∧ sm 20 (D.2.1 (3 * k + 1)) ∧ sm 9 (D.2.1 (3 * k + 2)) := by
  have a := h.1 (3 * k) (by omega)
  have b := h.1 (3 * k + 1) (by omega)
  have c := h.1 (3 * k + 2) (by omega)
  rw [show 3 * k % 3 = 0 by omega] at a
  rw [show (3 * k + 1) % 3 = 1 by omega] at b
  rw [show (3 * k + 2) % 3 = 2 by omega] at c
  exact ⟨inB_sm a (zlo_0 0 (by omega)) (by decide) (by omega), inB_sm b (zlo_0 1 (by omega)) (by decide) (by omega), inB_sm c (zlo_0 2 (by omega)) (by decide) (by omega)⟩
theorem MB.b {D : MD} (h : MB D) {k : Nat} (hk : k < D.1.2.1) : sm 20 (D.2.2.1 (3 * k)) ∧ sm 9 (D.2.2.1 (3 * k + 1)) ∧ sm 3 (D.2.2.1 (3 * k + 2)) := by
  have a := h.2.1 (3 * k) (by omega)
  have b := h.2.1 (3 * k + 1) (by omega)
  have c := h.2.1 (3 * k + 2) (by omega)
  rw [show 3 + 3 * k % 3 = 3 by omega] at a
  rw [show 3 + (3 * k + 1) % 3 = 4 by omega] at b
  rw [show 3 + (3 * k + 2) % 3 = 5 by omega] at c
  exact ⟨inB_sm a (zlo_0 3 (by omega)) (by decide) (by omega), inB_sm b (zlo_0 4 (by omega)) (by decide) (by omega), inB_sm c (zlo_0 5 (by omega)) (by decide) (by omega)⟩
theorem MB.l {D : MD} (h : MB D) : sm 20 (D.2.2.2 1) := inB_sm (h.2.2 1 (by omega)) (zlo_0 7 (by omega)) (by decide) (by omega)
/-- what days go by in a market that a text says -/
def mkP (D : MD) (w : Nat → Nat) (W : Nat → (Nat → Int32) → Int32) : Pm := ((D.1.1, D.1.2.1, D.1.1),
  (fun i k => if i = 0 then ix (D.2.1 (3 * k)) else if i = 1 then ix (D.2.1 (3 * k + 2)) else if i = 2 then ix (D.2.2.1 (3 * k + 1)) else if i = 3 then ix (D.2.2.1 (3 * k + 2)) else w k),
  (fun i k => if i = 0 then D.2.1 (3 * k + 1) else if i = 1 then D.2.2.1 (3 * k) else if i = 2 then -1 else if k = 0 then D.2.2.2 1 else D.2.2.2 0), W)
theorem mkP_ok {D : MD} {w : Nat → Nat} {W : Nat → (Nat → Int32) → Int32} (h5 : D.1.1 ≤ 5) (h6 : D.1.2.1 ≤ 6) (hB : MB D) (w1 : ∀ k, k < D.1.2.1 → w k < D.1.2.1)
    (w2 : ∀ i j, i < j → j < D.1.2.1 → D.2.2.1 (3 * w j) < D.2.2.1 (3 * w i) ∨ D.2.2.1 (3 * w i) = D.2.2.1 (3 * w j) ∧ w i < w j) (w3 : ∀ s, s < D.1.2.1 → ∃ k, k < D.1.2.1 ∧ w k = s) : IvP (mkP D w W) := by
  refine ⟨⟨h5, h6, Nat.le_refl _, (show D.1.1 ≤ 6 by omega), fun k hk => ?_, fun i hi => ?_, fun k _ => Or.inl rfl, fun k h1 h2 => ?_, hB.l⟩, ⟨w2, w3⟩, rfl, fun k => rfl⟩
  · have := hB.s hk
    exact ⟨this.1.2, this.2.2.2, this.2.1⟩
  · have := hB.b hi
    exact ⟨this.2.1.2, this.2.2.2, w1 i hi, this.1⟩
  · have h1 : D.1.1 ≤ k := h1
    have h2 : k < D.1.1 := h2
    omega
