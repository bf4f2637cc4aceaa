/-! ===== a day, said once for both ===== -/
/-- what a day goes by: how many sellers, sorts, stands; rows of counts, rows of ints; what rules are worth -/
abbrev Pm : Type := (Nat × Nat × Nat) × (Nat → Nat → Nat) × (Nat → Nat → Int32) × (Nat → (Nat → Int32) → Int32)
def pn (P : Pm) : Nat := P.1.1
def pm (P : Pm) : Nat := P.1.2.1
def pN (P : Pm) : Nat := P.1.2.2
def pbr (P : Pm) : Nat → Nat := P.2.1 0
def pro (P : Pm) : Nat → Nat := P.2.1 1
def pma (P : Pm) : Nat → Nat := P.2.1 2
def pwa (P : Pm) : Nat → Nat := P.2.1 3
def pw (P : Pm) : Nat → Nat := P.2.1 4
def pco (P : Pm) : Nat → Int32 := P.2.2.1 0
def pwo (P : Pm) : Nat → Int32 := P.2.2.1 1
def pto (P : Pm) : Nat → Int32 := P.2.2.1 2
def pfr (P : Pm) : Int32 := P.2.2.1 3 0
def pld (P : Pm) : Int32 := P.2.2.1 3 1
def pW (P : Pm) : Nat → (Nat → Int32) → Int32 := P.2.2.2
/-- whether a bit is set -/
def hob (x : Int32) (k : Nat) : Prop := ¬ (x >>> (nI k &&& 31)) &&& 1 = 0
/-! ===== buying ===== -/
section
variable (N : Nat) (hd : Nat → Prop) (g0 : Nat → Nat) (ask : Nat → Int32)
def sel (d : Nat → Nat) (k : Nat) : Prop := k < N ∧ d k < g0 k ∧ ¬ hd k
def IsCh (d : Nat → Nat) (c : Nat) : Prop := sel N hd g0 d c ∧ ∀ k, sel N hd g0 d k → ask c < ask k ∨ ask c = ask k ∧ c ≤ k
noncomputable def chp (d : Nat → Nat) : Option Nat := @dite (Option Nat) (∃ c, IsCh N hd g0 ask d c) (Classical.propDecidable _) (fun h => some (Classical.choose h)) (fun _ => none)
def updN (f : Nat → Nat) (k v : Nat) : Nat → Nat := fun j => if j = k then v else f j
theorem updN_s {f : Nat → Nat} {k v : Nat} : updN f k v k = v := if_pos rfl
theorem updN_n {f : Nat → Nat} {k v j : Nat} (h : j ≠ k) : updN f k v j = f j := if_neg h
/-- so many buyers of a worth come, one behind another: what was sold by whom, the surplus, how many bought -/
noncomputable def buyN (wo : Int32) : Nat → (Nat → Nat) → Int32 → (Nat → Nat) × Int32 × Nat
  | 0, d, s => (d, s, 0)
  | b + 1, d, s => match chp N hd g0 ask d with
    | none => (d, s, 0)
    | some c => if ask c ≤ wo then ((buyN wo b (updN d c (d c + 1)) (s + (wo - ask c))).1, (buyN wo b (updN d c (d c + 1)) (s + (wo - ask c))).2.1, (buyN wo b (updN d c (d c + 1)) (s + (wo - ask c))).2.2 + 1) else (d, s, 0)
variable {N hd g0 ask}
theorem IsCh.uniq {d : Nat → Nat} {c e : Nat} (h : IsCh N hd g0 ask d c) (h2 : IsCh N hd g0 ask d e) : c = e := by
  rcases h.2 e h2.1 with g | ⟨g, gl⟩
  · rcases h2.2 c h.1 with k | ⟨k, kl⟩
    · rw [Int32.lt_iff_toInt_lt] at g k; omega
    · rw [k] at g; rw [Int32.lt_iff_toInt_lt] at g; omega
  · rcases h2.2 c h.1 with k | ⟨k, kl⟩
    · rw [g] at k; rw [Int32.lt_iff_toInt_lt] at k; omega
    · omega
theorem chp_eq {d : Nat → Nat} {c : Nat} (h : IsCh N hd g0 ask d c) : chp N hd g0 ask d = some c := by
  have hx : ∃ c, IsCh N hd g0 ask d c := ⟨c, h⟩
  unfold chp
  rw [dif_pos hx, (Classical.choose_spec hx).uniq h]
theorem chp_is {d : Nat → Nat} {c : Nat} (h : chp N hd g0 ask d = some c) : IsCh N hd g0 ask d c := by
  unfold chp at h
  by_cases hx : ∃ c, IsCh N hd g0 ask d c
  · rw [dif_pos hx] at h
    have := Classical.choose_spec hx
    rw [Option.some.inj h] at this
    exact this
  · rw [dif_neg hx] at h; cases h
theorem chp_no {d : Nat → Nat} (h : ∀ k, ¬ sel N hd g0 d k) : chp N hd g0 ask d = none := by
  cases e : chp N hd g0 ask d with
  | none => rfl
  | some c => exact absurd (chp_is e).1 (h c)
theorem buyN_stop {wo : Int32} {b : Nat} {d : Nat → Nat} {s : Int32} (h : ∀ c, chp N hd g0 ask d = some c → ¬ ask c ≤ wo) : buyN N hd g0 ask wo b d s = (d, s, 0) := by
  cases b with
  | zero => rfl
  | succ b =>
    unfold buyN
    cases e : chp N hd g0 ask d with
    | none => rfl
    | some c => dsimp only; rw [if_neg (h c e)]
theorem updN_updN {f : Nat → Nat} {k v w : Nat} : updN (updN f k v) k w = updN f k w := by
  funext j; unfold updN; split <;> rfl
theorem updN_self {f : Nat → Nat} {k v : Nat} (h : f k = v) : updN f k v = f := by
  funext j; unfold updN; split
  · subst_vars; rfl
  · rfl
theorem buyN_run {wo : Int32} {c : Nat} : ∀ {t b : Nat} {d : Nat → Nat} {s : Int32}, (0 < t → IsCh N hd g0 ask d c) → ask c ≤ wo → d c + t ≤ g0 c → buyN N hd g0 ask wo (t + b) d s =
    ((buyN N hd g0 ask wo b (updN d c (d c + t)) (s + nI t * (wo - ask c))).1, (buyN N hd g0 ask wo b (updN d c (d c + t)) (s + nI t * (wo - ask c))).2.1, (buyN N hd g0 ask wo b (updN d c (d c + t)) (s + nI t * (wo - ask c))).2.2 + t) := by
  intro t
  induction t with
  | zero =>
    intro b d s _ _ _
    have e : s + nI 0 * (wo - ask c) = s := by rw [n_0]; grind
    rw [e, updN_self (by omega), Nat.zero_add]
    rfl
  | succ t ih =>
    intro b d s hc hw hg
    have hc := hc (by omega)
    rw [show t + 1 + b = (t + b) + 1 by omega]
    conv => lhs; unfold buyN
    rw [chp_eq hc]
    dsimp only
    rw [if_pos hw]
    have e : s + (wo - ask c) + nI t * (wo - ask c) = s + nI (t + 1) * (wo - ask c) := by rw [← n_add t 1, n_1]; grind
    have IH := ih (b := b) (d := updN d c (d c + 1)) (s := s + (wo - ask c)) (fun ht => ⟨⟨hc.1.1, by rw [updN_s]; omega, hc.1.2.2⟩, fun k hk => by
      by_cases e : k = c
      · subst e; exact Or.inr ⟨rfl, Nat.le_refl _⟩
      · refine hc.2 k ⟨hk.1, ?_, hk.2.2⟩
        have := hk.2.1
        rw [updN_n e] at this
        exact this⟩) hw (by rw [updN_s]; omega)
    rw [updN_s, updN_updN, e, show d c + 1 + t = d c + (t + 1) by omega] at IH
    rw [IH]
    dsimp only
    rw [Nat.add_assoc]
theorem buyN_le {wo : Int32} : ∀ {b : Nat} {d : Nat → Nat} {s : Int32}, (buyN N hd g0 ask wo b d s).2.2 ≤ b := by
  intro b
  induction b with
  | zero => intro d s; exact Nat.le_refl _
  | succ b ih =>
    intro d s
    unfold buyN
    cases e : chp N hd g0 ask d with
    | none => exact Nat.zero_le _
    | some c =>
      dsimp only
      by_cases hw : ask c ≤ wo
      · rw [if_pos hw]; exact Nat.succ_le_succ ih
      · rw [if_neg hw]; exact Nat.zero_le _
theorem buyN_d {wo : Int32} : ∀ {b : Nat} {d : Nat → Nat} {s : Int32}, (∀ k, d k ≤ g0 k) → ∀ k, (buyN N hd g0 ask wo b d s).1 k ≤ g0 k ∧ d k ≤ (buyN N hd g0 ask wo b d s).1 k ∧ (N ≤ k → (buyN N hd g0 ask wo b d s).1 k = d k) := by
  intro b
  induction b with
  | zero => intro d s h k; exact ⟨h k, Nat.le_refl _, fun _ => rfl⟩
  | succ b ih =>
    intro d s h k
    unfold buyN
    cases e : chp N hd g0 ask d with
    | none => exact ⟨h k, Nat.le_refl _, fun _ => rfl⟩
    | some c =>
      dsimp only
      by_cases hw : ask c ≤ wo
      · rw [if_pos hw]
        have hc := (chp_is e).1
        have h2 : ∀ k, updN d c (d c + 1) k ≤ g0 k := fun k => by
          by_cases e : k = c
          · subst e; rw [updN_s]; exact hc.2.1
          · rw [updN_n e]; exact h k
        obtain ⟨a1, a2, a3⟩ := ih (s := s + (wo - ask c)) h2 k
        refine ⟨a1, Nat.le_trans ?_ a2, fun hk => (a3 hk).trans (updN_n (by have := hc.1; omega))⟩
        by_cases e : k = c
        · subst e; rw [updN_s]; omega
        · rw [updN_n e]; exact Nat.le_refl _
      · rw [if_neg hw]; exact ⟨h k, Nat.le_refl _, fun _ => rfl⟩
end
/-! ===== the sale of a whole day ===== -/
abbrev Sx : Type := (Nat → Nat) × Int32 × (Nat → Nat) × (Nat → Int32)
section
variable (N : Nat) (hd : Nat → Prop) (g0 : Nat → Nat) (ask : Nat → Int32) (wo : Nat → Int32)
noncomputable def sAge (i a : Nat) (X : Sx) : Sx := ((buyN N hd g0 ask (wo i) (X.2.2.1 (4 * i + a)) X.1 X.2.1).1, (buyN N hd g0 ask (wo i) (X.2.2.1 (4 * i + a)) X.1 X.2.1).2.1,
  updN X.2.2.1 (4 * i + a) (X.2.2.1 (4 * i + a) - (buyN N hd g0 ask (wo i) (X.2.2.1 (4 * i + a)) X.1 X.2.1).2.2), upd X.2.2.2 i (X.2.2.2 i + nI (buyN N hd g0 ask (wo i) (X.2.2.1 (4 * i + a)) X.1 X.2.1).2.2))
noncomputable def sSort (i : Nat) (X : Sx) : Sx := sAge N hd g0 ask wo i 0 (sAge N hd g0 ask wo i 1 (sAge N hd g0 ask wo i 2 (sAge N hd g0 ask wo i 3 X)))
noncomputable def sAll (w : Nat → Nat) : Nat → Sx → Sx
  | 0, X => X
  | k + 1, X => sSort N hd g0 ask wo (w k) (sAll w k X)
end
