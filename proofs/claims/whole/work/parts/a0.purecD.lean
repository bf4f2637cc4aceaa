/-! ===== odds ===== -/
/-- of so many parts how many end with a board of a price or more -/
noncomputable def ods (P : Pm) (r : Nat) (pr : Int32) : Nat → Mm → Nat → Nat
  | 0, t, m => if t 0 0 < pr then 0 else m
  | l + 1, t, m => if m = 0 then 0 else ods P r pr l (dayS P 1 t) (m * r / 100) + ods P r pr l (dayS P 0 t) (m - m * r / 100)
theorem ods_0 {P : Pm} {r : Nat} {pr : Int32} : ∀ l t, ods P r pr l t 0 = 0 := by
  intro l t
  cases l with
  | zero => unfold ods; split <;> rfl
  | succ l => unfold ods; rw [if_pos rfl]
theorem o_le {m r : Nat} (hr : r ≤ 100) : m * r / 100 ≤ m := by
  have h := Nat.mul_le_mul (Nat.le_refl m) hr
  omega
theorem o_fe {m r : Nat} (hm : m ≤ 1000000000) (hr : r ≤ 100) : Int64.toInt32 (((nI m).toInt64 * (nI r).toInt64) / 100) = nI (m * r / 100) := by
  have h : m * r ≤ 1000000000 * 100 := Nat.mul_le_mul hm hr
  have hl := o_le (m := m) hr
  apply Int32.toInt_inj.mp
  have e1 : ((nI m).toInt64 * (nI r).toInt64).toInt = ((m * r : Nat) : Int) := by
    rw [Int64.toInt_mul, Int32.toInt_toInt64, Int32.toInt_toInt64, n_ti (by omega), n_ti (by omega), ← Int.natCast_mul]
    exact Int.bmod_eq_of_le (by omega) (by omega)
  have e2 : (((nI m).toInt64 * (nI r).toInt64) / 100).toInt = ((m * r / 100 : Nat) : Int) := by
    rw [Int64.toInt_div, e1, show (100 : Int64).toInt = 100 by decide, show ((m * r : Nat) : Int).tdiv 100 = ((m * r / 100 : Nat) : Int) from rfl]
    exact Int.bmod_eq_of_le (by omega) (by omega)
  rw [Int64.toInt_toInt32, e2, n_ti (by omega)]
  exact Int.bmod_eq_of_le (by omega) (by omega)
theorem Wt.day0 {P : Pm} {rc B : Nat} {t : Mm} {x : Int32} (hP : IvP P) (h : Wt P rc B t) (hB : B < 1000000) : Wt P rc (B + 1) (dayS P x t) := by
  obtain ⟨h1, h2, h3, h4⟩ := h
  have := dayS_wf (f := x) hP.1 h1 h3 hB
  exact ⟨this.1, h2.day (f := x), this.2, by rw [dayS_3]; exact h4⟩
/-- what splitting from a day on may change -/
def FrV (day : Nat) (σ τ : Mm) : Prop := (∀ k, k ≠ 6 → k ≠ 8 → τ 37 k = σ 37 k) ∧ ∀ c, (c < 39 ∨ 42 < c ∧ c < 95 + 10 * day ∨ 694 < c) → c ≠ 37 → ¬ stk c → τ c = σ c
theorem FrV.refl {day : Nat} {σ : Mm} : FrV day σ σ := ⟨fun _ _ _ => rfl, fun _ _ _ _ => rfl⟩
theorem FrV.trans {day : Nat} {σ τ υ : Mm} (h : FrV day σ τ) (h2 : FrV day τ υ) : FrV day σ υ := ⟨fun k a b => (h2.1 k a b).trans (h.1 k a b), fun c a1 a2 a3 => (h2.2 c a1 a2 a3).trans (h.2 c a1 a2 a3)⟩
theorem FrV.up {d e : Nat} {σ τ : Mm} (h : FrV e σ τ) (hd : d ≤ e) : FrV d σ τ := ⟨h.1, fun c a1 a2 a3 => h.2 c (by omega) a2 a3⟩
theorem FrV.y {d : Nat} {σ τ : Mm} (hd : d < 60) (h : FrY (d + 1) σ τ) : FrV d σ τ := ⟨h.1, fun c a1 a2 a3 => h.2 c (by omega) (by omega) a2 a3⟩
theorem FrV.c {day : Nat} {σ τ : Mm} (h : FrV day σ τ) {c : Nat} (hc : c < 12 ∨ 27 ≤ c ∧ c < 37 ∨ c = 38 ∨ 42 < c ∧ c < 95 + 10 * day ∨ 694 < c) : τ c = σ c := h.2 c (by omega) (by omega) (stk_n (by omega))
theorem FrV.s {day : Nat} {σ τ : Mm} (h : FrV day σ τ) : FrS σ τ := by
  refine ⟨fun c hc => ?_, fun k _ => by rw [h.c (by omega)], fun k _ => by rw [h.c (by omega)]⟩
  by_cases e : 12 ≤ c ∧ c < 27
  · exact h.2 c (by omega) (by omega) (by rcases hc with h | h | h | h | h | h | h | h | h <;> first | exact h.2.2 | omega)
  · exact h.2 c (by omega) (by omega) (stk_n (by omega))
theorem FrV.m {day : Nat} {P : Pm} {σ τ : Mm} (h : PmC P σ) (f : FrV day σ τ) : PmC P τ := by
  obtain ⟨h1, h2, h3, h4, h5, h6, h7⟩ := h
  have q : ∀ c, 3 ≤ c → c ≤ 10 ∨ c = 38 → τ c = σ c := fun c a b => f.c (by omega)
  refine ⟨by rw [q 3 (by omega) (by omega)]; exact h1, by rw [q 3 (by omega) (by omega)]; exact h2, by rw [q 3 (by omega) (by omega)]; exact h3, by rw [f.1 4 (by omega) (by omega)]; exact h4, by rw [f.1 5 (by omega) (by omega)]; exact h5, fun k hk => ?_, fun i hi => ?_⟩
  · rw [q 4 (by omega) (by omega), q 5 (by omega) (by omega), q 6 (by omega) (by omega), q 38 (by omega) (by omega)]; exact h6 k hk
  · rw [q 7 (by omega) (by omega), q 8 (by omega) (by omega), q 9 (by omega) (by omega), q 10 (by omega) (by omega)]; exact h7 i hi
theorem FrV.r {day : Nat} {P : Pm} {rc : Nat} {σ τ : Mm} (h : RuC P rc σ) (hrc : rc ≤ 5) (f : FrV day σ τ) : RuC P rc τ :=
  h.of (fun r hr => ⟨f.2 _ (by omega) (by omega) (stk_n (by omega)), f.2 _ (by omega) (by omega) (stk_n (by omega))⟩)
theorem c_split {P : Pm} {rc r n : Nat} {pr : Int32} (hP : IvP P) (hr : r ≤ 100) (hn : n ≤ 10) : ∀ l day dd B t m σ, day + l = n → l < dd → m ≤ 1000000000 → B + l < 900000 → Wt P rc B t → AgS (85 + 10 * day) σ t → PmC P σ → RuC P rc σ → σ 79 7 = nI n → σ 79 10 = pr → σ 79 11 = nI r →
    Ok (zfX7_split dd (nI day) (nI m) σ) (fun b => b.1 = nI (ods P r pr l t m) ∧ FrV day σ b.2) := by
  intro l
  induction l with
  | zero =>
    intro day dd B t m σ hd hl hm hB hw hA hC hR v7 v10 v11
    obtain ⟨dd, rfl⟩ : ∃ e, dd = e + 1 := ⟨dd - 1, by omega⟩
    unfold zfX7_split
    refine ok_lg (fun J hJ => ?_)
    have hin : inb (nI day) 61 := (n_in (by omega)).mpr (by omega)
    by_cases c0 : m = 0
    · rw [if_pos (by rw [c0]; rfl)]
      simp only [hJ]
      rw [ok_s, c0, ods_0]
      exact ⟨rfl, FrV.refl⟩
    · rw [if_neg (show ¬ nI m = 0 by rw [show (0 : Int32) = nI 0 from rfl, n_eq (by omega) (by omega)]; exact c0), if_neg (n_nlt0 (by omega)), if_neg (by rw [show (10 : Int32) = nI 10 from rfl, n_lt (by omega) (by omega)]; omega), if_neg (by rw [show (61 : Int32) = nI 61 from rfl, n_le (by omega) (by omega)]; omega), ck_t hin, v7, if_pos (by rw [show day = n by omega]), ck_t hin, n_ix (by omega), hA.1 0 (by omega), v10]
      by_cases c1 : t 0 0 < pr
      · rw [if_pos c1, ok_s]
        exact ⟨by unfold ods; rw [if_pos c1]; rfl, FrV.refl⟩
      · rw [if_neg c1, ok_s]
        exact ⟨by unfold ods; rw [if_neg c1], FrV.refl⟩
  | succ l ih =>
    intro day dd B t m σ hd hl hm hB hw hA hC hR v7 v10 v11
    obtain ⟨dd, rfl⟩ : ∃ e, dd = e + 1 := ⟨dd - 1, by omega⟩
    unfold zfX7_split
    refine ok_lg (fun J hJ => ?_)
    have hin : inb (nI day) 61 := (n_in (by omega)).mpr (by omega)
    by_cases c0 : m = 0
    · rw [if_pos (by rw [c0]; rfl)]
      simp only [hJ]
      rw [ok_s, c0, ods_0]
      exact ⟨rfl, FrV.refl⟩
    · have hfe := o_le (m := m) hr
      rw [if_neg (show ¬ nI m = 0 by rw [show (0 : Int32) = nI 0 from rfl, n_eq (by omega) (by omega)]; exact c0), if_neg (n_nlt0 (by omega)), if_neg (by rw [show (10 : Int32) = nI 10 from rfl, n_lt (by omega) (by omega)]; omega), if_neg (by rw [show (61 : Int32) = nI 61 from rfl, n_le (by omega) (by omega)]; omega), ck_t hin, v7, if_neg (by rw [n_eq (by omega) (by omega)]; omega), v11, o_fe hm hr]
      have un : ods P r pr (l + 1) t m = ods P r pr l (dayS P 1 t) (m * r / 100) + ods P r pr l (dayS P 0 t) (m - m * r / 100) := by
        show (if m = 0 then 0 else _) = _
        rw [if_neg c0]
      rw [un]
      generalize hfm : m * r / 100 = fe at hfe ⊢
      refine ok_lg (fun x3 hx3 => ?_)
      subst hx3
      refine ok_lg (fun J2 hJ2 => ?_)
      have two : ∀ φ, FrV day σ φ → Ok (J2 (nI (ods P r pr l (dayS P 1 t) fe)) φ) (fun b => b.1 = nI (ods P r pr l (dayS P 1 t) fe + ods P r pr l (dayS P 0 t) (m - fe)) ∧ FrV day σ b.2) := fun φ hf => by
        simp only [hJ2]
        refine ok_lg (fun J3 hJ3 => ?_)
        by_cases c1 : m ≤ fe
        · rw [if_pos (by rw [n_le (by omega) (by omega)]; exact c1)]
          simp only [hJ3]
          rw [ok_s, show m - fe = 0 by omega, ods_0]
          exact ⟨rfl, hf⟩
        · rw [if_neg (by rw [n_le (by omega) (by omega)]; exact c1), ok_bd2]
          refine ok_mono (c_next (f := 0) (by omega) hP.1 hw.1 hw.2.1 (hA.fr (fun c a b => hf.c (by omega))) (hf.m hC) (hf.r hR hw.2.1.1)) (fun b hb => ?_)
          obtain ⟨d1, d2, d3⟩ := hb
          have f2 : FrV day σ b.2 := hf.trans (FrV.y (by omega) d3)
          rw [d1, ck_t (zSb_p (by omega)), ok_bd2, show nI day + 1 = nI (day + 1) from n_add _ 1, n_sub (by omega)]
          refine ok_mono (ih (day + 1) dd (B + 1) _ (m - fe) b.2 (by omega) (by omega) (by omega) (by omega) (hw.day0 hP (by omega)) d2 (f2.m hC) (f2.r hR hw.2.1.1) (by rw [f2.c (by omega)]; exact v7) (by rw [f2.c (by omega)]; exact v10) (by rw [f2.c (by omega)]; exact v11)) (fun e he => ?_)
          obtain ⟨g1, g2⟩ := he
          refine ok_lg (fun x4 hx4 => ?_)
          rw [g1, n_add] at hx4
          simp only [hJ3]
          rw [ok_s]
          exact ⟨hx4, f2.trans (g2.up (by omega))⟩
      by_cases c1 : fe = 0
      · rw [if_pos (by rw [c1]; decide)]
        have := two σ FrV.refl
        rw [c1, ods_0] at this ⊢
        exact this
      · rw [if_neg (show ¬ nI fe ≤ 0 by rw [show (0 : Int32) = nI 0 from rfl, n_le (by omega) (by omega)]; omega), ok_bd2]
        refine ok_mono (c_next (f := 1) (by omega) hP.1 hw.1 hw.2.1 hA hC hR) (fun b hb => ?_)
        obtain ⟨d1, d2, d3⟩ := hb
        have f2 : FrV day σ b.2 := FrV.y (by omega) d3
        rw [d1, ck_t (zSb_p (by omega)), ok_bd2, show nI day + 1 = nI (day + 1) from n_add _ 1]
        refine ok_mono (ih (day + 1) dd (B + 1) _ fe b.2 (by omega) (by omega) (by omega) (by omega) (hw.day0 hP (by omega)) d2 (f2.m hC) (f2.r hR hw.2.1.1) (by rw [f2.c (by omega)]; exact v7) (by rw [f2.c (by omega)]; exact v10) (by rw [f2.c (by omega)]; exact v11)) (fun e he => ?_)
        obtain ⟨g1, g2⟩ := he
        rw [g1]
        exact two e.2 (f2.trans (g2.up (by omega)))
