/-! ===== markets: what a text says ===== -/
/-- the first item of a kind of clause, how many it has -/
def fi (κ : Nat) : Nat := 3 * κ
def ln (κ : Nat) : Nat := if κ = 2 then 2 else 3
/-- the item of a letter -/
def itG (κ : Nat) (x : Int32) : Option Nat :=
  if κ = 0 then (if x = 110 then some 0 else if x = 99 then some 1 else if x = 114 then some 2 else none)
  else if κ = 1 then (if x = 118 then some 3 else if x = 109 then some 4 else if x = 119 then some 5 else none)
  else (if x = 113 then some 6 else if x = 102 then some 7 else none)
def zus (g : Nat) : Int32 := (zStV.getD 3 []).getD g 0
def zlo (g : Nat) : Int32 := (zStV.getD 1 []).getD g 0
def zhi (g : Nat) : Int32 := (zStV.getD 2 []).getD g 0
theorem itG_lt {κ g : Nat} {x : Int32} (hκ : κ < 3) (h : itG κ x = some g) : g < 8 ∧ fi κ ≤ g ∧ g < fi κ + ln κ := by
  have : κ = 0 ∨ κ = 1 ∨ κ = 2 := by omega
  unfold itG at h
  rcases this with rfl | rfl | rfl
  all_goals
    simp only [show ¬ (1 : Nat) = 0 by decide, show ¬ (2 : Nat) = 0 by decide, show ¬ (2 : Nat) = 1 by decide, if_true, if_false] at h
    repeat' split at h
    all_goals first | (cases h; decide) | cases h
/-- a number of two digits at most -/
def nm2 (t : Nat → Int32) (n p : Nat) : Except Nat (Nat × Int32) := if isd t n p then num t n 2 p 0 else .error p
/-- the items of a clause from p on: V what they say so far, T which were told -/
def itms (t : Nat → Int32) (n κ : Nat) : Nat → Nat → (Nat → Int32) → (Nat → Int32) → Except Nat (Nat × (Nat → Int32))
  | 0, _, _, _ => .error 0
  | F + 1, p, V, T => match itG κ (sg t n (skp t n p)) with
    | none => .ok (skp t n p, V)
    | some g => if T g = 0 then (match nm2 t n (skp t n (skp t n p + 1)) with
        | .error e => .error e
        | .ok (p3, v) => if v < zlo g then .error (p3 - 1) else if v ≤ zhi g then itms t n κ F p3 (upd V g v) (upd T g 1) else .error (p3 - 1)) else .error (skp t n p)
abbrev MD : Type := (Nat × Nat × Nat) × (Nat → Int32) × (Nat → Int32) × (Nat → Int32)
def kdS (D : MD) (x : Int32) : Option Nat := if x = 115 then (if D.1.1 < 5 then some 0 else none) else if x = 98 then (if D.1.2.1 < 6 then some 1 else none) else if x = 108 then (if D.1.2.2 = 0 then some 2 else none) else none
def adD (D : MD) (κ : Nat) (V : Nat → Int32) : MD :=
  if κ = 0 then ((D.1.1 + 1, D.1.2.1, D.1.2.2), (fun k => if 3 * D.1.1 ≤ k then V (k - 3 * D.1.1) else D.2.1 k), D.2.2.1, D.2.2.2)
  else if κ = 1 then ((D.1.1, D.1.2.1 + 1, D.1.2.2), D.2.1, (fun k => if 3 * D.1.2.1 ≤ k then V (3 + (k - 3 * D.1.2.1)) else D.2.2.1 k), D.2.2.2)
  else ((D.1.1, D.1.2.1, 1), D.2.1, D.2.2.1, fun k => V (6 + k))
def clS (t : Nat → Int32) (n p : Nat) (D : MD) : Except Nat (Nat × MD) := match kdS D (sg t n (skp t n p)) with
  | none => .error (skp t n p)
  | some κ => match itms t n κ 200 (skp t n p + 1) zus (fun _ => 0) with
    | .error e => .error e
    | .ok (p1, V) => .ok (p1, adD D κ V)
def mkS (t : Nat → Int32) (n : Nat) : Nat → Nat → MD → Except Nat MD
  | 0, _, _ => .error 0
  | F + 1, p, D => match clS t n p D with
    | .error e => .error e
    | .ok (p1, D1) => if sg t n (skp t n p1) = 59 then mkS t n F (skp t n p1 + 1) D1 else if sg t n (skp t n p1) = -1 ∧ 0 < D1.1.1 ∧ 0 < D1.1.2.1 then .ok D1 else .error (skp t n p1)
def D0 : MD := ((0, 0, 0), (fun _ => 0), (fun _ => 0), fun k => zus (6 + k))
/-! ===== the class reads numbers and items ===== -/
theorem c_num43 {σ : Mm} {t : Nat → Int32} {n p : Nat} (h : CT σ t n) (ht : ∀ k, k < n → 0 ≤ (t k).toInt ∧ (t k).toInt < 256) (hpn : p ≤ n) (hσ : σ 43 1 = nI p) :
    zfX3_number_43 2 σ = match nm2 t n p with
      | .error e => some (-1, zst (zst σ 43 1 (nI e)) 43 2 (nI e))
      | .ok (p', v) => some (v, zst σ 43 1 (nI p')) := by
  have hn := h.2.1
  have hself : zst σ 43 1 (nI p) = σ := zst_self hσ
  have hc : ∀ a, CT (zst σ 43 1 a) t n := fun a => h.of (zst_n (by decide)) (zst_n (by decide))
  unfold zfX3_number_43 nm2
  have hNF : 3 < NF := by unfold NF; omega
  generalize NF = N at hNF ⊢
  simp only [lt_p]
  rw [hσ]
  by_cases hd : p < n ∧ ¬ (t p < 48 ∨ 57 < t p)
  case neg =>
    obtain ⟨fu, rfl⟩ : ∃ g, N = g + 1 := ⟨N - 1, by omega⟩
    have hg := sg_dig (p := p) ht
    rw [if_neg (show ¬ isd t n p from hd)]
    unfold zfX3_number_43_L10
    rw [if_neg (by decide), hσ, c_byteAt h hpn, bd_some]
    simp only [lt_p]
    by_cases g1 : sg t n p - 48 < 0
    · rw [if_pos g1, hself, if_pos trivial]
    · rw [if_neg g1, if_neg (fun g2 => hd (hg.mp ⟨g1, g2⟩)), hself, if_pos trivial]
  case pos =>
  rw [if_pos (show isd t n p from hd)]
  have key : ∀ r i p2 (v : Int32) fu, i + r = 2 → p2 ≤ n → p + i = p2 → r < fu →
      zfX3_number_43_L10 2 (fun x3_87 σ87 => if (σ87 43 1) = nI p then some (-1, zst σ87 43 2 (σ87 43 1)) else some (x3_87, σ87)) (fun σ53 => some (-1, zst σ53 43 2 (σ53 43 1))) (fun x3_44 σ44 => if (σ44 43 1) = nI p then some (-1, zst σ44 43 2 (σ44 43 1)) else some (x3_44, σ44)) fu v (nI i) (zst σ 43 1 (nI p2)) = match num t n r p2 v with
      | .error e => some (-1, zst (zst σ 43 1 (nI e)) 43 2 (nI e))
      | .ok (p', v) => some (v, zst σ 43 1 (nI p')) := by
    intro r
    induction r with
    | zero =>
      intro i p2 v fu hi hp2 hpi hf
      obtain ⟨fu, rfl⟩ : ∃ g, fu = g + 1 := ⟨fu - 1, by omega⟩
      unfold zfX3_number_43_L10 num
      have e1 : i = 2 := by omega
      subst e1
      rw [if_neg (by decide), zst_v, c_byteAt (hc _) hp2, bd_some]
      simp only [lt_p]
      have hg := sg_dig (p := p2) ht
      by_cases hd2 : p2 < n ∧ ¬ (t p2 < 48 ∨ 57 < t p2)
      · obtain ⟨g1, g2⟩ := hg.mpr hd2
        rw [if_neg g1, if_pos g2, if_pos (by decide), if_pos hd2]
      · rw [if_neg hd2]
        have hne : ¬ (nI p2 = nI p) := by rw [n_eq (by omega) (by omega)]; omega
        by_cases g1 : sg t n p2 - 48 < 0
        · rw [if_pos g1, if_neg hne]
        · rw [if_neg g1, if_neg (fun g2 => hd2 (hg.mp ⟨g1, g2⟩)), if_neg hne]
    | succ r ih =>
      intro i p2 v fu hi hp2 hpi hf
      obtain ⟨fu, rfl⟩ : ∃ g, fu = g + 1 := ⟨fu - 1, by omega⟩
      unfold zfX3_number_43_L10 num
      rw [if_neg (by rw [show (2 : Int32) = nI 2 from rfl, n_lt (by omega) (by omega)]; omega), zst_v, c_byteAt (hc _) hp2, bd_some]
      simp only [lt_p]
      have hg := sg_dig (p := p2) ht
      by_cases hd2 : p2 < n ∧ ¬ (t p2 < 48 ∨ 57 < t p2)
      · obtain ⟨g1, g2⟩ := hg.mpr hd2
        rw [if_neg g1, if_pos g2, if_neg (by rw [show (2 : Int32) = nI 2 from rfl, n_eq (by omega) (by omega)]; omega), if_pos hd2, zst_zst, show nI p2 + 1 = nI (p2 + 1) from n_add _ 1, show nI i + 1 = nI (i + 1) from n_add _ 1, ih (i + 1) (p2 + 1) _ fu (by omega) (by omega) (by omega) (by omega)]
        rw [show sg t n p2 = t p2 from if_pos hd2.1]
      · rw [if_neg hd2]
        have hne : ¬ (nI p2 = nI p) := by
          rw [n_eq (by omega) (by omega)]
          intro e
          rw [e] at hd2
          exact hd2 hd
        by_cases g1 : sg t n p2 - 48 < 0
        · rw [if_pos g1, if_neg hne]
        · rw [if_neg g1, if_neg (fun g2 => hd2 (hg.mp ⟨g1, g2⟩)), if_neg hne]
  have := key 2 0 p 0 N (by omega) (by omega) (by omega) (by omega)
  rw [hself] at this
  exact this
theorem nm2_ok {t : Nat → Int32} {n p p' : Nat} {v : Int32} (ht : ∀ k, k < n → 0 ≤ (t k).toInt ∧ (t k).toInt < 256) (h : nm2 t n p = .ok (p', v)) : p < p' ∧ p' ≤ n ∧ ∃ b, v = nI b ∧ b < 100000 := by
  unfold nm2 at h
  by_cases hd : isd t n p
  · rw [if_pos hd] at h
    have h1 := num_pos hd h
    have h2 := (num_ge (by have := hd.1; omega) h).2
    refine ⟨h1, h2, ?_⟩
    have := num_lt ht h 0 (by decide) rfl (by decide)
    obtain ⟨b, e1, e2⟩ := this
    exact ⟨b, e1, by omega⟩
  · rw [if_neg hd] at h; cases h
theorem nm2_err {t : Nat → Int32} {n p e : Nat} (hp : p ≤ n) (h : nm2 t n p = .error e) : p ≤ e ∧ e ≤ n := by
  unfold nm2 at h
  by_cases hd : isd t n p
  · rw [if_pos hd] at h; exact num_err hp h
  · rw [if_neg hd] at h; cases h; omega
theorem c_itemOf {κ : Nat} {x : Int32} {σ : Mm} (hκ : κ < 3) : zfX1_itemOf (nI κ) x σ = some (match itG κ x with | some g => nI g | none => -1) := by
  unfold zfX1_itemOf
  obtain ⟨m, hm⟩ : ∃ m, NF = m + 1 + 1 + 1 + 1 := ⟨19996, rfl⟩
  rw [hm]
  simp only [lt_p]
  generalize hk : (fun (x3_53 : Int32) => some x3_53) = k53
  generalize hk2 : (fun (_ : Unit) => some (-1 : Int32)) = k61
  have g : ∀ i fu e, i < e → e ≤ 8 → zfX1_itemOf_L38 (nI e) k61 x k53 (fu + 1) (nI i) = if zsc 0 i = x then k53 (nI i) else zfX1_itemOf_L38 (nI e) k61 x k53 fu (nI (i + 1)) := by
    intro i fu e hi he
    conv => lhs; unfold zfX1_itemOf_L38
    rw [if_neg (by rw [n_le (by omega) (by omega)]; omega), show zLen.getD 0 0 = 8 from rfl, ck_t ((n_in (by omega)).mpr (by omega)), n_ix (by omega), lt_p, show nI i + 1 = nI (i + 1) from n_add _ 1]
  have ge : ∀ fu e, e ≤ 8 → zfX1_itemOf_L38 (nI e) k61 x k53 (fu + 1) (nI e) = k61 () := by
    intro fu e he
    unfold zfX1_itemOf_L38
    rw [if_pos (by rw [n_le (by omega) (by omega)]; omega)]
  have : κ = 0 ∨ κ = 1 ∨ κ = 2 := by omega
  unfold itG
  rcases this with rfl | rfl | rfl
  · rw [if_neg (by decide), if_pos (by decide), ck_t (by decide), ck_t (by decide), if_pos rfl]
    rw [show zmin ((zStV.getD 0 []).getD (ix (nI 0 + 1)) 0) (zsl 0) = nI 3 by decide, show ((zStV.getD 0 []).getD (ix (nI 0)) 0) = nI 0 by decide]
    rw [g 0 _ 3 (by omega) (by omega), g 1 _ 3 (by omega) (by omega), g 2 _ 3 (by omega) (by omega), ge _ 3 (by omega), ← hk, ← hk2, show zsc 0 0 = 110 by decide, show zsc 0 1 = 99 by decide, show zsc 0 2 = 114 by decide]
    simp only [eq_comm (b := x)]
    repeat' split
    all_goals first | rfl | simp_all
  · rw [if_neg (by decide), if_pos (by decide), ck_t (by decide), ck_t (by decide), if_neg (by decide), if_pos rfl]
    rw [show zmin ((zStV.getD 0 []).getD (ix (nI 1 + 1)) 0) (zsl 0) = nI 6 by decide, show ((zStV.getD 0 []).getD (ix (nI 1)) 0) = nI 3 by decide]
    rw [g 3 _ 6 (by omega) (by omega), g 4 _ 6 (by omega) (by omega), g 5 _ 6 (by omega) (by omega), ge _ 6 (by omega), ← hk, ← hk2, show zsc 0 3 = 118 by decide, show zsc 0 4 = 109 by decide, show zsc 0 5 = 119 by decide]
    simp only [eq_comm (b := x)]
    repeat' split
    all_goals first | rfl | simp_all
  · rw [if_neg (by decide), if_pos (by decide), ck_t (by decide), ck_t (by decide), if_neg (by decide), if_neg (by decide)]
    rw [show zmin ((zStV.getD 0 []).getD (ix (nI 2 + 1)) 0) (zsl 0) = nI 8 by decide, show ((zStV.getD 0 []).getD (ix (nI 2)) 0) = nI 6 by decide]
    rw [g 6 _ 8 (by omega) (by omega), g 7 _ 8 (by omega) (by omega), ge _ 8 (by omega), ← hk, ← hk2, show zsc 0 6 = 113 by decide, show zsc 0 7 = 102 by decide]
    simp only [eq_comm (b := x)]
    repeat' split
    all_goals first | rfl | simp_all
