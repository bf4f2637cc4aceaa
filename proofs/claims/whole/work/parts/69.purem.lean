/-! ===== a day leaves a state that can be ===== -/
theorem sm_n {B g : Nat} (h : g ≤ B) (hB : B < 2147483648) : sm B (nI g) := sm_of rfl h hB
theorem sm_int {B : Nat} {x : Int32} (hB : B < 2147483648) (h0 : 0 ≤ x.toInt) (h1 : x.toInt ≤ B) : sm B x := by
  refine ⟨n_of h0, ?_⟩
  unfold ix Int32.toNatClampNeg; omega
theorem sm_to {B : Nat} {x : Int32} (h : sm B x) (hB : B < 2147483648) : 0 ≤ x.toInt ∧ x.toInt ≤ B := by
  rw [h.1, n_ti (by have := h.2; omega)]; have := h.2; omega
theorem insR_mem {v : Int32} : ∀ {f : Nat} {U : Nat → Int32} {p : Int32 → Prop}, (∀ j, j < f → p (U j)) → p v → ∀ j, j < f + 1 → p (insR f U v j) := by
  intro f
  induction f with
  | zero =>
    intro U p _ hv j hj
    have : j = 0 := by omega
    subst this
    unfold insR; rw [upd_s]; exact hv
  | succ f ih =>
    intro U p h hv j hj
    unfold insR
    by_cases c : U f ≤ v
    · rw [if_pos c]
      by_cases e : j = f + 1
      · rw [e, upd_s]; exact hv
      · rw [upd_n e]; exact h j (by omega)
    · rw [if_neg c]
      have hi : ∀ (k : Nat) (U : Nat → Int32) (n : Nat), k < n → insR k U v n = U n := by
        intro k
        induction k with
        | zero => intro U n hn; unfold insR; rw [upd_n (by omega)]
        | succ k ih2 =>
          intro U n hn
          unfold insR
          by_cases c : U k ≤ v
          · rw [if_pos c, upd_n (by omega)]
          · rw [if_neg c, ih2 _ _ (by omega), upd_n (by omega)]
      by_cases e : j = f + 1
      · rw [e, hi _ _ _ (by omega), upd_s]; exact h f (by omega)
      · exact ih (fun j hj => by rw [upd_n (by omega)]; exact h j (by omega)) hv j (by omega)
theorem lud_mem {gl : Nat → Nat} {ask : Nat → Int32} {p : Int32 → Prop} : ∀ {K : Nat}, (∀ k, k < K → p (ask k)) → ∀ j, j < (lud gl ask K).1 → p ((lud gl ask K).2 j) := by
  intro K
  induction K with
  | zero => intro _ j hj; exact absurd hj (Nat.not_lt_zero j)
  | succ K ih =>
    intro h j hj
    have ih := ih (fun k hk => h k (by omega))
    unfold lud at hj ⊢
    by_cases c : gl K = 0
    · rw [if_pos c] at hj ⊢; exact ih j hj
    · rw [if_neg c] at hj ⊢
      dsimp only at hj ⊢
      exact insR_mem ih (h K (by omega)) j hj
theorem asV_sm {to ru : Nat → Int32} {holds board : Int32} {W : Nat → (Nat → Int32) → Int32} {lam : Nat → Nat → Int32} {k : Nat} (hb : sm 20 board) (ht : to k = -1 ∨ sm 20 (to k)) : sm 20 (asV to ru holds board W lam k) := by
  unfold asV
  have hb2 := sm_to hb (by omega)
  by_cases c : to k = -1
  · rw [if_pos c]
    split
    · split
      · exact hb
      · split
        · exact hb
        · have e0 : (0 : Int32).toInt = 0 := rfl
          have hz : (zmin board (W (ix (ru k)) (lam k))).toInt ≤ board.toInt := by
            unfold zmin
            by_cases c : W (ix (ru k)) (lam k) < board
            · rw [if_pos c]; rw [Int32.lt_iff_toInt_lt] at c; omega
            · rw [if_neg c]; omega
          generalize zmin board (W (ix (ru k)) (lam k)) = y at hz ⊢
          have hm : 0 ≤ (zmax 0 y).toInt ∧ (zmax 0 y).toInt ≤ board.toInt := by
            unfold zmax
            by_cases c : 0 < y
            · rw [if_pos c]; rw [Int32.lt_iff_toInt_lt] at c; omega
            · rw [if_neg c]; omega
          exact sm_int (by omega) hm.1 (by omega)
    · exact hb
  · rw [if_neg c]; exact ht.resolve_left c
theorem dA_sm {P : Pm} {f : Int32} {s : Mm} (hP : WFp P) (hs : WFs P s) {k : Nat} (hk : k < pN P) : sm 20 (dA P f s k) := asV_sm hs.1 (hP.2.2.2.2.2.2.1 k hk)
theorem dayS_wf {P : Pm} {f : Int32} {s : Mm} {B : Nat} (hP : WFp P) (hs : WFs P s) (hB : sm B (s 0 1)) (hB2 : B < 1000000) : WFs P (dayS P f s) ∧ sm (B + 1) (dayS P f s 0 1) := by
  have hdw := dw_le (f := f) hP hs
  have hdG := dG_le (P := P) hs
  have hA := fun k (hk : k < pN P) => dA_sm (f := f) hP hs hk
  have hX : ∀ k, (dX P f s).2.2.1 k ≤ dw P f s k := fun k => sAll_wt (pm P)
  have hgl : ∀ k, dgl P f s k ≤ 99 := fun k => by have := hdG k; unfold dgl; omega
  obtain ⟨p1, p2, p3, p4, p5, p6, p7, p8, p9⟩ := hP
  obtain ⟨s1, s2, s3, s4, s5, s6, s7⟩ := hs
  have hd1 : sm (B + 1) (dayS P f s 0 1) := by
    show sm (B + 1) (s 0 1 + 1)
    rw [hB.1, show nI (ix (s 0 1)) + 1 = nI (ix (s 0 1) + 1) from n_add _ 1]
    exact sm_n (by have := hB.2; omega) (by omega)
  refine ⟨⟨?_, ⟨hd1.1, by have := hd1.2; omega⟩, fun k hk => ?_, fun k hk => ?_, fun k hk => ?_, fun i b hi hb h => ?_, fun k h1 h2 => ?_⟩, hd1⟩
  · show sm 20 (boV (pld P) (pfr P) (dU P f s))
    unfold boV
    have hm : ∀ j, j < (dU P f s).1 → sm 20 ((dU P f s).2 j) := lud_mem hA
    by_cases c : (dU P f s).1 = 0
    · rw [if_pos c]; exact p9
    · rw [if_neg c]
      split
      · exact hm 0 (by omega)
      · split
        · exact hm _ (by omega)
        · exact hm _ (by omega)
  · show sm 99 (if k < pN P then _ else _)
    rw [if_pos hk]
    exact sm_n (by have := hgl k; omega) (by omega)
  · show sm 99 (if k < pN P then _ else _)
    rw [if_pos (by omega)]
    exact sm_n (hgl k) (by omega)
  · show sm 18 (nI (cwt (pm P) (pwa P) (dX P f s).2.2.1 k))
    refine sm_n ?_ (by omega)
    unfold cwt
    have h1 := hX k; have h2 := hX (k - 1); have h3 := hdw k; have h4 := hdw (k - 1)
    repeat' split
    all_goals omega
  · show nI (cwt (pm P) (pwa P) (dX P f s).2.2.1 (4 * i + b)) = 0
    have : cwt (pm P) (pwa P) (dX P f s).2.2.1 (4 * i + b) = 0 := by
      unfold cwt
      rw [if_pos (by omega), show (4 * i + b) % 4 = b by omega, show (4 * i + b) / 4 = i by omega]
      by_cases c : b = 0
      · rw [if_pos c]
      · rw [if_neg c, if_neg (by omega)]
    rw [this]; rfl
  · show nI (cwt (pm P) (pwa P) (dX P f s).2.2.1 k) = 0
    have h := hX k
    have hd : dw P f s k = 0 := by
      unfold dw owt wt0
      rw [if_neg (by omega), if_pos h2, s7 k h1 h2]; rfl
    have : cwt (pm P) (pwa P) (dX P f s).2.2.1 k = 0 := by
      unfold cwt
      rw [if_neg (by omega)]; omega
    rw [this]; rfl
theorem dayS_3 {P : Pm} {f : Int32} {s : Mm} : dayS P f s 0 3 = s 0 3 := rfl
theorem dayS_4 {P : Pm} {f : Int32} {s : Mm} : dayS P f s 0 4 = s 0 4 := rfl
theorem dayS_6 {P : Pm} {f : Int32} {s : Mm} : dayS P f s 6 = s 6 := rfl
theorem RuS.day {P : Pm} {f : Int32} {s : Mm} {rc : Nat} (h : RuS P rc s) : RuS P rc (dayS P f s) := ⟨h.1, h.2.1, h.2.2⟩
/-- so many days on, without feasts -/
noncomputable def dys (P : Pm) (s : Mm) : Nat → Mm
  | 0 => s
  | j + 1 => dayS P 0 (dys P s j)
theorem dys_wf {P : Pm} {s : Mm} {B : Nat} (hP : WFp P) (hs : WFs P s) (hB : sm B (s 0 1)) (hB2 : B < 900000) : ∀ j, j ≤ 1000 → WFs P (dys P s j) ∧ sm (B + j) (dys P s j 0 1) := by
  intro j
  induction j with
  | zero => intro _; exact ⟨hs, hB⟩
  | succ j ih =>
    intro hj
    obtain ⟨h1, h2⟩ := ih (by omega)
    exact dayS_wf (f := 0) hP h1 h2 (show B + j < 1000000 by omega)
theorem dys_3 {P : Pm} {s : Mm} : ∀ j, dys P s j 0 3 = s 0 3 := by
  intro j
  induction j with
  | zero => rfl
  | succ j ih => show dayS P 0 (dys P s j) 0 3 = _; rw [dayS_3, ih]
theorem dys_6 {P : Pm} {s : Mm} : ∀ j, dys P s j 6 = s 6 := by
  intro j
  induction j with
  | zero => rfl
  | succ j ih => show dayS P 0 (dys P s j) 6 = _; rw [dayS_6, ih]
theorem dys_ru {P : Pm} {s : Mm} {rc : Nat} (h : RuS P rc s) (j : Nat) : RuS P rc (dys P s j) := ⟨h.1, h.2.1, by rw [dys_6]; exact h.2.2⟩
