/-! ===== what a walk has noted ===== -/
theorem zmax_ti {x y : Int32} : (zmax x y).toInt = max x.toInt y.toInt := by
  unfold zmax
  by_cases c : x < y
  · rw [if_pos c]; rw [Int32.lt_iff_toInt_lt] at c; omega
  · rw [if_neg c]; rw [Int32.lt_iff_toInt_lt] at c; omega
theorem zmin_ti {x y : Int32} : (zmin x y).toInt = min x.toInt y.toInt := by
  unfold zmin
  by_cases c : y < x
  · rw [if_pos c]; rw [Int32.lt_iff_toInt_lt] at c; omega
  · rw [if_neg c]; rw [Int32.lt_iff_toInt_lt] at c; omega
theorem nC_k {g : Nat → Nat} {ho : Int32} {ask N : Nat → Int32} {k : Nat} (h1 : k ≠ 11) (h2 : k ≠ 12) : ∀ {n : Nat}, nC g ho ask n N k = N k := by
  intro n
  induction n with
  | zero => rfl
  | succ n ih =>
    rw [nC]
    split
    · exact ih
    · rw [upd_n h2, upd_n h1, ih]
theorem nG_k {a : Bool} {N : Nat → Int32} {k : Nat} (h : k ≠ 10) : nG a N k = N k := by
  unfold nG
  split
  · rw [upd_n h]
  · rfl
theorem nDay_k {P : Pm} {s : Mm} {N : Nat → Int32} {k : Nat} (h : k < 10) : nDay P s N k = nB (if (dU P 0 s).1 = 0 then 1 else 0) (dayS P 0 s 0 0) N k := by
  unfold nDay
  rw [upd_n (by omega), nG_k (by omega), nC_k (by omega) (by omega)]
theorem nB_k {fl b : Int32} {N : Nat → Int32} : nB fl b N 4 = (if fl = 0 then N 4 else N 4 + 1) ∧ nB fl b N 5 = zmax (N 5) ((if fl = 0 then N 6 else b) - b) ∧ nB fl b N 6 = zmax (if fl = 0 then N 6 else b) b ∧ nB fl b N 7 = zmax (N 7) b ∧ nB fl b N 8 = zmin (N 8) b ∧ nB fl b N 9 = N 9 + b := by
  unfold nB nB5 nB4 nB3 nB2 nB1
  by_cases c : fl = 0
  · simp [c, upd]
  · simp [c, upd]
/-! ===== falls ===== -/
section
variable (b : Nat → Int) (jm : Nat → Prop)
/-- from i to j without a jump -/
def NoJ (i j : Nat) : Prop := ∀ k, i ≤ k → k < j → ¬ jm k
def IsFl (S : Nat → Nat → Prop) (v : Int) : Prop := 0 ≤ v ∧ (∀ i j, S i j → i < j → NoJ jm i j → b i - b j ≤ v) ∧ (v = 0 ∨ ∃ i j, S i j ∧ i < j ∧ NoJ jm i j ∧ b i - b j = v)
def IsPk (d : Nat) (p : Int) : Prop := (∀ i, i ≤ d → NoJ jm i d → b i ≤ p) ∧ ∃ i, i ≤ d ∧ NoJ jm i d ∧ b i = p
end
theorem IsFl.uniq {b : Nat → Int} {jm : Nat → Prop} {S T : Nat → Nat → Prop} {v w : Int} (h : IsFl b jm S v) (h2 : IsFl b jm T w) (e : ∀ i j, i < j → (S i j ↔ T i j)) : v = w := by
  obtain ⟨a1, a2, a3⟩ := h
  obtain ⟨c1, c2, c3⟩ := h2
  have k1 : v ≤ w := by
    rcases a3 with h | ⟨i, j, x1, x2, x3, x4⟩
    · omega
    · have := c2 i j ((e i j x2).mp x1) x2 x3; omega
  have k2 : w ≤ v := by
    rcases c3 with h | ⟨i, j, x1, x2, x3, x4⟩
    · omega
    · have := a2 i j ((e i j x2).mpr x1) x2 x3; omega
  omega
theorem IsFl.add {b : Nat → Int} {jm : Nat → Prop} {S T : Nat → Nat → Prop} {v w : Int} (h : IsFl b jm S v) (hw : v ≤ w) (hS : ∀ i j, S i j → T i j) (hT : ∀ i j, T i j → i < j → NoJ jm i j → S i j ∨ b i - b j ≤ w) (hx : w = v ∨ ∃ i j, T i j ∧ i < j ∧ NoJ jm i j ∧ b i - b j = w) : IsFl b jm T w := by
  obtain ⟨a1, a2, a3⟩ := h
  refine ⟨by omega, fun i j x1 x2 x3 => ?_, ?_⟩
  · rcases hT i j x1 x2 x3 with h | h
    · have := a2 i j h x2 x3; omega
    · exact h
  · rcases hx with h | h
    · rcases a3 with h2 | ⟨i, j, x1, x2, x3, x4⟩
      · exact Or.inl (by omega)
      · exact Or.inr ⟨i, j, hS i j x1, x2, x3, by omega⟩
    · exact Or.inr h
def SD (d : Nat) (_ j : Nat) : Prop := j ≤ d
theorem fl_step {b : Nat → Int} {jm : Nat → Prop} {d : Nat} {v p : Int} (h : IsFl b jm (SD d) v) (hp : IsPk b jm d p) :
    (jm d → IsFl b jm (SD (d + 1)) (max v 0) ∧ IsPk b jm (d + 1) (b (d + 1))) ∧ (¬ jm d → IsFl b jm (SD (d + 1)) (max v (p - b (d + 1))) ∧ IsPk b jm (d + 1) (max p (b (d + 1)))) := by
  have h0 := h.1
  constructor
  · intro hj
    refine ⟨h.add (by omega) (fun i j x => ?_) (fun i j x1 x2 x3 => ?_) (Or.inl (by omega)), fun i hi hn => ?_, d + 1, by omega, fun k _ _ => by omega, rfl⟩
    · show j ≤ d + 1
      have : j ≤ d := x
      omega
    · have : j ≤ d + 1 := x1
      by_cases e : j = d + 1
      · exact absurd hj (x3 d (by omega) (by omega))
      · exact Or.inl (show j ≤ d by omega)
    · by_cases e : i = d + 1
      · rw [e]; exact Int.le_refl _
      · exact absurd hj (hn d (by omega) (by omega))
  · intro hj
    obtain ⟨p1, i0, q1, q2, q3⟩ := hp
    have ext : ∀ i, NoJ jm i d → NoJ jm i (d + 1) := fun i hn k h1 h2 => by
      by_cases e : k = d
      · rw [e]; exact hj
      · exact hn k h1 (by omega)
    have red : ∀ i, NoJ jm i (d + 1) → NoJ jm i d := fun i hn k h1 h2 => hn k h1 (by omega)
    refine ⟨h.add (by omega) (fun i j x => ?_) (fun i j x1 x2 x3 => ?_) ?_, fun i hi hn => ?_, ?_⟩
    · show j ≤ d + 1
      have : j ≤ d := x
      omega
    · have : j ≤ d + 1 := x1
      by_cases e : j = d + 1
      · right
        subst e
        have := p1 i (by omega) (red i x3)
        omega
      · exact Or.inl (show j ≤ d by omega)
    · by_cases c : p - b (d + 1) ≤ v
      · exact Or.inl (by omega)
      · exact Or.inr ⟨i0, d + 1, Nat.le_refl _, by omega, ext i0 q2, by omega⟩
    · by_cases e : i = d + 1
      · rw [e]; omega
      · have := p1 i (by omega) (red i hn); omega
    · by_cases c : p ≤ b (d + 1)
      · exact ⟨d + 1, by omega, fun k _ _ => by omega, by omega⟩
      · exact ⟨i0, by omega, ext i0 q2, by omega⟩
noncomputable def bdI (P : Pm) (s : Mm) (j : Nat) : Int := (dys P s j 0 0).toInt
def jmP (P : Pm) (s : Mm) (j : Nat) : Prop := (dU P 0 (dys P s j)).1 = 0
theorem sub_ti {x y : Int32} (hx : 0 ≤ x.toInt ∧ x.toInt ≤ 20) (hy : 0 ≤ y.toInt ∧ y.toInt ≤ 20) : (x - y).toInt = x.toInt - y.toInt := by
  have e : ((2 ^ 32 : Nat) : Int) = 4294967296 := rfl
  rw [Int32.toInt_sub, Int.bmod_eq_of_le (by omega) (by omega)]
theorem n_falls {P : Pm} {s : Mm} {R : Nat → Int32} {B : Nat} (hP : WFp P) (hs : WFs P s) (hB : sm B (s 0 1)) (hB2 : B < 900000) : ∀ j, j ≤ 1000 → nts P s (n0 (s 0 0) R) j 4 = nI (jct P s j) ∧ IsFl (bdI P s) (jmP P s) (SD j) (nts P s (n0 (s 0 0) R) j 5).toInt ∧ IsPk (bdI P s) (jmP P s) j (nts P s (n0 (s 0 0) R) j 6).toInt ∧ (0 ≤ (nts P s (n0 (s 0 0) R) j 6).toInt ∧ (nts P s (n0 (s 0 0) R) j 6).toInt ≤ 20) := by
  have hb : ∀ j, j ≤ 1000 → 0 ≤ bdI P s j ∧ bdI P s j ≤ 20 := fun j hj => by have h := sm_to (B := 20) (dys_wf hP hs hB hB2 j hj).1.1 (by omega); exact ⟨h.1, h.2⟩
  intro j
  induction j with
  | zero =>
    intro _
    have h0 := hb 0 (by omega)
    refine ⟨rfl, ⟨show (0 : Int) ≤ (0 : Int32).toInt by decide, fun i j x1 x2 _ => ?_, Or.inl rfl⟩, ⟨fun i hi _ => ?_, 0, Nat.le_refl _, fun k _ h => absurd h (Nat.not_lt_zero k), rfl⟩, h0⟩
    · have : j ≤ 0 := x1
      omega
    · have : i = 0 := by omega
      subst this
      exact Int.le_refl _
  | succ j ih =>
    intro hj
    obtain ⟨i1, i2, i3, i4⟩ := ih (by omega)
    have hst := fl_step i2 i3
    have hbj := hb (j + 1) hj
    have e : ∀ k, k < 10 → nts P s (n0 (s 0 0) R) (j + 1) k = nB (if (dU P 0 (dys P s j)).1 = 0 then 1 else 0) (dys P s (j + 1) 0 0) (nts P s (n0 (s 0 0) R) j) k := fun k hk => nDay_k hk
    have hk := nB_k (fl := if (dU P 0 (dys P s j)).1 = 0 then 1 else 0) (b := dys P s (j + 1) 0 0) (N := nts P s (n0 (s 0 0) R) j)
    rw [e 4 (by omega), e 5 (by omega), e 6 (by omega), hk.1, hk.2.1, hk.2.2.1]
    have hbb : (dys P s (j + 1) 0 0).toInt = bdI P s (j + 1) := rfl
    by_cases c : (dU P 0 (dys P s j)).1 = 0
    · have h1 := hst.1 c
      rw [if_pos c, if_neg (by decide), if_neg (by decide), zmax_ti, zmax_ti, sub_ti hbj hbj, hbb, i1, jct, if_pos c]
      refine ⟨n_add _ 1, ?_, ?_, by omega⟩
      · rw [show bdI P s (j + 1) - bdI P s (j + 1) = 0 by omega]; exact h1.1
      · rw [show max (bdI P s (j + 1)) (bdI P s (j + 1)) = bdI P s (j + 1) by omega]; exact h1.2
    · have h1 := hst.2 c
      rw [if_neg c, if_pos rfl, if_pos rfl, zmax_ti, zmax_ti, sub_ti i4 hbj, hbb, i1, jct, if_neg c]
      exact ⟨rfl, h1.1, h1.2, by omega⟩
