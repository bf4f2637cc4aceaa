/-! ===== the class notes a day ===== -/
def nB1 (b : Int32) (M : Nat → Int32) : Nat → Int32 := upd M 5 (zmax (M 5) (M 6 - b))
def nB2 (b : Int32) (M : Nat → Int32) : Nat → Int32 := upd M 6 (zmax (M 6) b)
def nB3 (b : Int32) (M : Nat → Int32) : Nat → Int32 := upd M 7 (zmax (M 7) b)
def nB4 (b : Int32) (M : Nat → Int32) : Nat → Int32 := upd M 8 (zmin (M 8) b)
def nB5 (b : Int32) (M : Nat → Int32) : Nat → Int32 := upd M 9 (M 9 + b)
def nB (fl b : Int32) (N : Nat → Int32) : Nat → Int32 := nB5 b (nB4 b (nB3 b (nB2 b (nB1 b (if fl = 0 then N else upd (upd N 4 (N 4 + 1)) 6 b)))))
def nC (g : Nat → Nat) (ho : Int32) (ask : Nat → Int32) : Nat → (Nat → Int32) → (Nat → Int32)
  | 0, N => N
  | k + 1, N => if g k = 0 ∨ ¬ (ho >>> (nI k &&& 31)) &&& 1 = 0 ∨ (¬ nC g ho ask k N 11 = -1 ∧ nC g ho ask k N 12 ≤ ask k) then nC g ho ask k N else upd (upd (nC g ho ask k N) 11 (nC g ho ask k N 13)) 12 (ask k)
def anyG (g b : Nat → Nat) : Nat → Bool
  | 0 => false
  | k + 1 => anyG g b k || decide (b k < g k)
theorem anyG_iff {g b : Nat → Nat} : ∀ {n : Nat}, anyG g b n = true ↔ ∃ k, k < n ∧ b k < g k := by
  intro n
  induction n with
  | zero => exact ⟨fun h => absurd (show false = true from h) (by decide), fun ⟨k, h, _⟩ => absurd h (Nat.not_lt_zero k)⟩
  | succ n ih =>
    unfold anyG
    rw [Bool.or_eq_true, ih, decide_eq_true_iff]
    constructor
    · rintro (⟨k, h1, h2⟩ | h)
      · exact ⟨k, by omega, h2⟩
      · exact ⟨n, by omega, h⟩
    · rintro ⟨k, h1, h2⟩
      by_cases e : k = n
      · subst e; exact Or.inr h2
      · exact Or.inl ⟨k, by omega, h2⟩
def nG (a : Bool) (N : Nat → Int32) : Nat → Int32 := if a = true then upd N 10 (N 10 + 1) else N
theorem c_nB {σ : Mm} : Ok (zfX10_noteBoard σ) (fun τ => τ = wr σ 68 (nB (σ 37 6) (σ 69 0) (σ 68))) := by
  unfold zfX10_noteBoard
  simp only [lt_p]
  by_cases c : σ 37 6 = 0
  · rw [if_pos c, ok_s]
    unfold nB
    rw [if_pos c]
    simp only [zst_wr, wr_s, wr_wr, nB1, nB2, nB3, nB4, nB5]
  · rw [if_neg c, ok_s]
    unfold nB
    rw [if_neg c]
    simp only [zst_wr, wr_s, wr_wr, nB1, nB2, nB3, nB4, nB5]
theorem c_nC {σ : Mm} {n : Nat} {g : Nat → Nat} {ask : Nat → Int32} (hn : n ≤ 6) (h3 : σ 3 0 = nI n) (hg : ∀ k, k < n → σ 39 k = nI (g k) ∧ g k ≤ 99) (ha : ∀ k, k < n → σ 73 k = ask k) : Ok (zfX10_noteCheapest σ) (fun τ => τ = wr σ 68 (nC g (σ 69 3) ask n (σ 68))) := by
  unfold zfX10_noteCheapest
  refine ok_lg (fun K hK => ?_)
  refine ok_up (F := fun fu (s : Int32 × Mm) => zfX10_noteCheapest_L2 K fu s.1 s.2) n (fun i s => s.1 = nI i ∧ s.2 = wr σ 68 (nC g (σ 69 3) ask i (σ 68))) ?_ ?_ 0 NF (0, σ) ⟨rfl, by show σ = wr σ 68 (σ 68); rw [wr_self]⟩ (by omega) (by unfold NF; omega)
  · rintro i fu ⟨y, τ⟩ hi ⟨hy, ht⟩ hk
    have hy : y = nI i := hy
    subst hy
    have ht : τ = wr σ 68 (nC g (σ 69 3) ask i (σ 68)) := ht
    have q : ∀ c, c ≠ 68 → τ c = σ c := fun c hc => by rw [ht, wr_n hc]
    have q68 : τ 68 = nC g (σ 69 3) ask i (σ 68) := by rw [ht, wr_s]
    show Ok (zfX10_noteCheapest_L2 K (fu + 1) (nI i) τ) _
    unfold zfX10_noteCheapest_L2
    have hin : inb (nI i) 6 := (n_in (by omega)).mpr (by omega)
    rw [if_neg (by rw [q 3 (by omega), h3, n_le (by omega) (by omega)]; omega), ck_t hin]
    refine ok_lg (fun J hJ => ?_)
    rw [n_ix (by omega), q 39 (by omega), (hg i hi).1]
    have go : nC g (σ 69 3) ask (i + 1) (σ 68) = nC g (σ 69 3) ask i (σ 68) → Ok (J τ) (fun τ => τ = wr σ 68 (nC g (σ 69 3) ask n (σ 68))) := fun e => by
      simp only [hJ]
      refine ok_lg (fun x hx => ?_)
      rw [show nI i + 1 = nI (i + 1) from n_add _ 1] at hx
      subst hx
      exact hk (nI (i + 1), τ) ⟨rfl, by dsimp only; rw [e]; exact ht⟩
    by_cases c1 : g i = 0
    · rw [if_pos (by rw [c1]; rfl)]
      exact go (by rw [nC, if_pos (Or.inl c1)])
    · rw [if_neg (show ¬ nI (g i) = 0 by rw [show (0 : Int32) = nI 0 from rfl, n_eq (by have := (hg i hi).2; omega) (by omega)]; exact c1)]
      have ehold : (zfX8_isHolding 69 (nI i) τ = 0) ↔ (σ 69 3 >>> (nI i &&& 31)) &&& 1 = 0 := by
        rw [c_hold, q 69 (by omega)]; unfold hob
        exact ⟨fun h => Classical.byContradiction fun h2 => h h2, fun h h2 => h2 h⟩
      by_cases c2 : (σ 69 3 >>> (nI i &&& 31)) &&& 1 = 0
      case neg =>
        rw [if_neg (fun h => c2 (ehold.mp h))]
        exact go (by rw [nC, if_pos (Or.inr (Or.inl c2))])
      case pos =>
        rw [if_pos (ehold.mpr c2)]
        refine ok_lg (fun J2 hJ2 => ?_)
        have go2 : nC g (σ 69 3) ask (i + 1) (σ 68) = upd (upd (nC g (σ 69 3) ask i (σ 68)) 11 (nC g (σ 69 3) ask i (σ 68) 13)) 12 (ask i) → Ok (J2 τ) (fun τ => τ = wr σ 68 (nC g (σ 69 3) ask n (σ 68))) := fun e => by
          simp only [hJ2]
          refine ok_lg (fun υ hυ => ?_)
          rw [ck_t hin]
          refine ok_lg (fun φ hφ => ?_)
          simp only [hJ]
          refine ok_lg (fun x hx => ?_)
          rw [show nI i + 1 = nI (i + 1) from n_add _ 1] at hx
          subst hx
          refine hk (nI (i + 1), φ) ⟨rfl, ?_⟩
          dsimp only
          rw [e, hφ, hυ, zst_n (by omega), q 73 (by omega), ha i hi, zst_wr, zst_wr, wr_s, wr_wr, q68, ht, wr_wr]
        rw [q68]
        by_cases c3 : nC g (σ 69 3) ask i (σ 68) 11 = -1
        · rw [if_pos c3]
          exact go2 (by rw [nC, if_neg (by rintro (h | h | h); exact c1 h; exact h c2; exact h.1 c3)])
        · rw [if_neg c3, ck_t hin, q 73 (by omega), ha i hi]
          by_cases c4 : nC g (σ 69 3) ask i (σ 68) 12 ≤ ask i
          · rw [if_pos c4]
            exact go (by rw [nC, if_pos (Or.inr (Or.inr ⟨c3, c4⟩))])
          · rw [if_neg c4]
            exact go2 (by rw [nC, if_neg (by rintro (h | h | h); exact c1 h; exact h c2; exact c4 h.2)])
  · rintro fu ⟨y, τ⟩ ⟨hy, ht⟩
    have hy : y = nI n := hy
    subst hy
    have ht : τ = wr σ 68 (nC g (σ 69 3) ask n (σ 68)) := ht
    show Ok (zfX10_noteCheapest_L2 K (fu + 1) (nI n) τ) _
    unfold zfX10_noteCheapest_L2
    rw [if_pos (by rw [ht, wr_n (by omega), h3]; exact Int32.le_refl _), hK, ok_s]
    exact ht
theorem c_nG {σ : Mm} {n : Nat} {g b : Nat → Nat} (hn : n ≤ 6) (h3 : σ 3 0 = nI n) (hg : ∀ k, k < n → σ 71 k = nI (g k) ∧ g k ≤ 99 ∧ σ 4 k = nI (b k) ∧ b k ≤ 99) : Ok (zfX10_noteGlut σ) (fun τ => τ = wr σ 68 (nG (anyG g b n) (σ 68))) := by
  unfold zfX10_noteGlut
  refine ok_lg (fun J hJ => ?_)
  refine ok_lg (fun K hK => ?_)
  refine ok_up (F := fun fu (s : Int32 × Mm) => zfX10_noteGlut_L2 K J fu s.1 s.2) n (fun i s => s.1 = nI i ∧ s.2 = σ ∧ anyG g b i = false) ?_ ?_ 0 NF (0, σ) ⟨rfl, rfl, rfl⟩ (by omega) (by unfold NF; omega)
  · rintro i fu ⟨y, τ⟩ hi ⟨hy, ht, hf⟩ hk
    have hy : y = nI i := hy
    subst hy
    have ht : τ = σ := ht
    subst ht
    have hin : inb (nI i) 6 := (n_in (by omega)).mpr (by omega)
    show Ok (zfX10_noteGlut_L2 K J (fu + 1) (nI i) τ) _
    unfold zfX10_noteGlut_L2
    rw [if_neg (by rw [h3, n_le (by omega) (by omega)]; omega), ck_t hin, ck_t hin, n_ix (by omega), (hg i hi).1, (hg i hi).2.2.1]
    by_cases c : g i ≤ b i
    · rw [if_pos ((n_le (by have := (hg i hi).2.1; omega) (by have := (hg i hi).2.2.2; omega)).mpr c)]
      refine ok_lg (fun x hx => ?_)
      rw [show nI i + 1 = nI (i + 1) from n_add _ 1] at hx
      subst hx
      refine hk (nI (i + 1), τ) ⟨rfl, rfl, ?_⟩
      rw [anyG, hf, Bool.false_or, decide_eq_false_iff_not]; omega
    · rw [if_neg (fun h => c ((n_le (by have := (hg i hi).2.1; omega) (by have := (hg i hi).2.2.2; omega)).mp h))]
      simp only [hJ]
      rw [ok_lt, ok_s, anyG_iff.mpr ⟨i, hi, by omega⟩, nG, if_pos rfl, zst_wr]
  · rintro fu ⟨y, τ⟩ ⟨hy, ht, hf⟩
    have hy : y = nI n := hy
    subst hy
    have ht : τ = σ := ht
    subst ht
    show Ok (zfX10_noteGlut_L2 K J (fu + 1) (nI n) τ) _
    unfold zfX10_noteGlut_L2
    rw [if_pos (by rw [h3]; exact Int32.le_refl _), hK, ok_s]
    have hf : anyG g b n = false := hf
    rw [hf, nG, if_neg (by decide), wr_self]
