/-! ===== rest: rows as numbers ===== -/
def loD (p i row : Nat) : Nat := row / p ^ i % p
def chD (p i row j : Nat) : Nat := row - loD p i row * p ^ i + j * p ^ i
theorem loD_0 {p a z : Nat} (hz : z < p) : loD p 0 (a * p + z) = z := by
  unfold loD
  rw [Nat.pow_zero, Nat.div_one, Nat.mul_comm, Nat.mul_add_mod, Nat.mod_eq_of_lt hz]
theorem dv_1 {p a z : Nat} (hz : z < p) : (a * p + z) / p = a := by
  rw [Nat.mul_comm, Nat.mul_add_div (by omega), Nat.div_eq_of_lt hz]; omega
theorem loD_s {p i a z : Nat} (hz : z < p) : loD p (i + 1) (a * p + z) = loD p i a := by
  unfold loD
  rw [Nat.pow_succ, Nat.mul_comm (p ^ i) p, ← Nat.div_div_eq_div_mul, dv_1 hz]
theorem loD_le {p i row : Nat} : loD p i row * p ^ i ≤ row := by
  have h1 : loD p i row ≤ row / p ^ i := Nat.mod_le _ _
  have h2 : row / p ^ i * p ^ i ≤ row := Nat.div_mul_le_self _ _
  exact Nat.le_trans (Nat.mul_le_mul_right _ h1) h2
theorem loD_lt {p i row : Nat} (hp : 0 < p) : loD p i row < p := Nat.mod_lt _ hp
theorem row_eq {p row : Nat} : row = row / p * p + row % p := by
  have := Nat.div_add_mod row p
  rw [Nat.mul_comm] at this
  exact this.symm
theorem chD_0 {p a z j : Nat} (hz : z < p) : chD p 0 (a * p + z) j = a * p + j := by
  unfold chD
  rw [loD_0 hz, Nat.pow_zero]; omega
theorem chD_s {p i a z j : Nat} (hz : z < p) : chD p (i + 1) (a * p + z) j = chD p i a j * p + z := by
  have h := loD_le (p := p) (i := i) (row := a)
  unfold chD
  rw [loD_s hz, Nat.pow_succ, ← Nat.mul_assoc, ← Nat.mul_assoc, Nat.add_mul, Nat.sub_mul]
  have h2 := Nat.mul_le_mul_right p h
  omega
theorem loD_ch {p : Nat} : ∀ {i i' row j : Nat}, 0 < p → j < p → loD p i' (chD p i row j) = if i' = i then j else loD p i' row := by
  intro i
  induction i with
  | zero =>
    intro i' row j hp hj
    have hz : row % p < p := Nat.mod_lt _ hp
    rw [show row = row / p * p + row % p from row_eq, chD_0 hz]
    cases i' with
    | zero => rw [loD_0 hj, if_pos rfl]
    | succ i' => rw [loD_s hj, if_neg (by omega), loD_s hz]
  | succ i ih =>
    intro i' row j hp hj
    have hz : row % p < p := Nat.mod_lt _ hp
    rw [show row = row / p * p + row % p from row_eq, chD_s hz]
    cases i' with
    | zero => rw [loD_0 hz, if_neg (by omega), loD_0 hz]
    | succ i' =>
      rw [loD_s hz, ih hp hj, loD_s hz]
      by_cases e : i' = i
      · rw [if_pos e, if_pos (by omega)]
      · rw [if_neg e, if_neg (by omega)]
theorem chD_lt {p : Nat} : ∀ {i n row j : Nat}, i < n → row < p ^ n → j < p → chD p i row j < p ^ n := by
  intro i
  induction i with
  | zero =>
    intro n row j hi hr hj
    obtain ⟨n, rfl⟩ : ∃ m, n = m + 1 := ⟨n - 1, by omega⟩
    have hz : row % p < p := Nat.mod_lt _ (by omega)
    rw [show row = row / p * p + row % p from row_eq, chD_0 hz]
    rw [Nat.pow_succ] at hr ⊢
    have h1 : row / p < p ^ n := Nat.div_lt_of_lt_mul (by rw [Nat.mul_comm]; exact hr)
    have h2 := Nat.mul_le_mul_right p (show row / p + 1 ≤ p ^ n from h1)
    rw [Nat.add_mul] at h2
    omega
  | succ i ih =>
    intro n row j hi hr hj
    obtain ⟨n, rfl⟩ : ∃ m, n = m + 1 := ⟨n - 1, by omega⟩
    have hz : row % p < p := Nat.mod_lt _ (by omega)
    rw [show row = row / p * p + row % p from row_eq, chD_s hz]
    rw [Nat.pow_succ] at hr ⊢
    have h1 : row / p < p ^ n := Nat.div_lt_of_lt_mul (by rw [Nat.mul_comm]; exact hr)
    have h2 := Nat.mul_le_mul_right p (show chD p i (row / p) j + 1 ≤ p ^ n from ih (by omega) h1 hj)
    rw [Nat.add_mul] at h2
    omega
theorem pow_rows {p n : Nat} (hp : p ≤ 21) (hn : n ≤ 3) : p ^ n ≤ 9261 := by
  have h : p ^ n ≤ 21 ^ n := Nat.pow_le_pow_left hp n
  have h2 : (21 : Nat) ^ n ≤ 21 ^ 3 := Nat.pow_le_pow_right (by omega) hn
  have h3 : (21 : Nat) ^ 3 = 9261 := by decide
  omega
/-- the digits of a row to the base 100 -/
def hun (p : Nat) : Nat → Nat → Nat
  | 0, _ => 0
  | n + 1, row => row % p + 100 * hun p n (row / p)
theorem hun_s {p n a j : Nat} (hj : j < p) : hun p (n + 1) (a * p + j) = 100 * hun p n a + j := by
  show (a * p + j) % p + 100 * hun p n ((a * p + j) / p) = _
  rw [dv_1 hj, Nat.mul_comm a p, Nat.mul_add_mod, Nat.mod_eq_of_lt hj]
  omega
theorem hun_le {p : Nat} (hp : 0 < p) (h2 : p ≤ 21) : ∀ {n row : Nat}, hun p n row + 1 ≤ 100 ^ n := by
  intro n
  induction n with
  | zero => intro row; exact Nat.le_refl _
  | succ n ih =>
    intro row
    have h := ih (row := row / p)
    have hz : row % p < p := Nat.mod_lt _ hp
    unfold hun
    rw [Nat.pow_succ]
    omega
theorem i_div {a b : Nat} (ha : a < 2147483648) (hb : 0 < b) (hb2 : b < 2147483648) : nI a / nI b = nI (a / b) := by
  apply Int32.toInt_inj.mp
  have hl : a / b ≤ a := Nat.div_le_self a b
  rw [Int32.toInt_div, n_ti ha, n_ti hb2, n_ti (by omega), show ((a : Nat) : Int).tdiv ((b : Nat) : Int) = ((a / b : Nat) : Int) from rfl]
  generalize a / b = q at hl ⊢
  exact Int.bmod_eq_of_le (by omega) (by omega)
theorem i_mod {a b : Nat} (ha : a < 2147483648) (hb : 0 < b) (hb2 : b < 2147483648) : nI a - nI a / nI b * nI b = nI (a % b) := by
  rw [i_div ha hb hb2, n_mul, n_sub (Nat.div_mul_le_self a b)]
  have := Nat.div_add_mod a b
  rw [Nat.mul_comm] at this
  congr 1
  omega
/-! ===== what goes over rows ===== -/
def fo {α : Type} (F : Nat → α → α) (x : Nat) : Nat → α → α
  | 0, r => r
  | m + 1, r => F (x + m) (fo F x m r)
theorem fo_add {α : Type} {F : Nat → α → α} {x a : Nat} {r : α} : ∀ b, fo F x (a + b) r = fo F (x + a) b (fo F x a r) := by
  intro b
  induction b with
  | zero => rfl
  | succ b ih => show F (x + (a + b)) (fo F x (a + b) r) = F (x + a + b) (fo F (x + a) b (fo F x a r)); rw [ih, Nat.add_assoc]
theorem fo_mul {α : Type} {F : Nat → α → α} {x q : Nat} {r : α} : ∀ m, fo F x (m * q) r = fo (fun j r => fo F (x + j * q) q r) 0 m r := by
  intro m
  induction m with
  | zero => rw [Nat.zero_mul]; rfl
  | succ m ih =>
    rw [Nat.succ_mul, fo_add, ih]
    show _ = fo F (x + (0 + m) * q) q (fo (fun j r => fo F (x + j * q) q r) 0 m r)
    rw [Nat.zero_add]
theorem fo_id {α : Type} {F : Nat → α → α} {x : Nat} {r : α} : ∀ m, (∀ y, x ≤ y → y < x + m → ∀ r, F y r = r) → fo F x m r = r := by
  intro m
  induction m with
  | zero => intro _; rfl
  | succ m ih =>
    intro h
    show F (x + m) (fo F x m r) = r
    rw [ih (fun y a b => h y a (by omega)), h (x + m) (by omega) (by omega)]
/-! ===== rest: said once ===== -/
/-- the askings of a row -/
def rF (p n row k : Nat) : Int32 := if k < n then nI (loD p (n - 1 - k) row) else -1
theorem rF_ok {p n row : Nat} (hp : 0 < p) (h21 : p ≤ 21) (k : Nat) : rF p n row k = -1 ∨ sm 20 (rF p n row k) := by
  unfold rF
  by_cases c : k < n
  · rw [if_pos c]
    have := loD_lt (p := p) (i := n - 1 - k) (row := row) hp
    exact Or.inr (sm_n (by omega) (by omega))
  · rw [if_neg c]; exact Or.inl rfl
/-- what a seller takes by askings told -/
noncomputable def tkF (P : Pm) (s : Mm) (f : Nat → Int32) (k : Nat) : Int32 := nI ((dX (tellP P f) 0 s).1 k) * f k
/-- none would ask otherwise alone -/
def ARn (P : Pm) (s : Mm) (p row : Nat) : Prop := ∀ k, k < pn P → ¬ hob (s 0 3) k → ∀ j, j < p → tkF P s (rF p (pn P) (chD p (pn P - 1 - k) row j)) k ≤ tkF P s (rF p (pn P) row) k
def ARw (P : Pm) (s : Mm) (p row : Nat) : Prop := ARn P s p row ∧ ∀ k, k < pn P → hob (s 0 3) k → loD p (pn P - 1 - k) row + 1 = p
noncomputable def rsp (P : Pm) (s : Mm) (p : Nat) (w : Int32) (row : Nat) (r : Nat × Int32) : Nat × Int32 := @ite (Nat × Int32) (ARw P s p row) (Classical.propDecidable _) (r.1 + 1, if nI r.1 = w then nI (hun p (pn P) row) else r.2) r
theorem rsp_y {P : Pm} {s : Mm} {p row : Nat} {w : Int32} {r : Nat × Int32} (h : ARw P s p row) : rsp P s p w row r = (r.1 + 1, if nI r.1 = w then nI (hun p (pn P) row) else r.2) := @if_pos _ (Classical.propDecidable _) h _ _ _
theorem rsp_n {P : Pm} {s : Mm} {p row : Nat} {w : Int32} {r : Nat × Int32} (h : ¬ ARw P s p row) : rsp P s p w row r = r := @if_neg _ (Classical.propDecidable _) h _ _ _
theorem rsp_le {P : Pm} {s : Mm} {p x : Nat} {w : Int32} {r : Nat × Int32} : ∀ m, (fo (rsp P s p w) x m r).1 ≤ r.1 + m := by
  intro m
  induction m with
  | zero => exact Nat.le_refl _
  | succ m ih =>
    show (rsp P s p w (x + m) (fo (rsp P s p w) x m r)).1 ≤ _
    by_cases c : ARw P s p (x + m)
    · rw [rsp_y c]; dsimp only; omega
    · rw [rsp_n c]; omega
/-- what was kept at first matters only where none came -/
theorem rsp_v {P : Pm} {s : Mm} {p x i : Nat} {a b : Int32} (hi : i < 2147483648) : ∀ m, m ≤ 10000 → (fo (rsp P s p (nI i)) x m (0, a)).1 = (fo (rsp P s p (nI i)) x m (0, b)).1 ∧ (i < (fo (rsp P s p (nI i)) x m (0, a)).1 → (fo (rsp P s p (nI i)) x m (0, a)).2 = (fo (rsp P s p (nI i)) x m (0, b)).2) ∧ ((fo (rsp P s p (nI i)) x m (0, a)).1 ≤ i → (fo (rsp P s p (nI i)) x m (0, b)).2 = b) := by
  intro m
  induction m with
  | zero => intro _; exact ⟨rfl, fun h => absurd h (Nat.not_lt_zero i), fun _ => rfl⟩
  | succ m ih =>
    intro hm
    obtain ⟨h1, h2, h3⟩ := ih (by omega)
    have hle := rsp_le (P := P) (s := s) (p := p) (x := x) (w := nI i) (r := (0, a)) m
    show (rsp P s p (nI i) (x + m) (fo (rsp P s p (nI i)) x m (0, a))).1 = (rsp P s p (nI i) (x + m) (fo (rsp P s p (nI i)) x m (0, b))).1 ∧ (i < (rsp P s p (nI i) (x + m) (fo (rsp P s p (nI i)) x m (0, a))).1 → (rsp P s p (nI i) (x + m) (fo (rsp P s p (nI i)) x m (0, a))).2 = (rsp P s p (nI i) (x + m) (fo (rsp P s p (nI i)) x m (0, b))).2) ∧ ((rsp P s p (nI i) (x + m) (fo (rsp P s p (nI i)) x m (0, a))).1 ≤ i → (rsp P s p (nI i) (x + m) (fo (rsp P s p (nI i)) x m (0, b))).2 = b)
    generalize fo (rsp P s p (nI i)) x m (0, a) = A at h1 h2 h3 hle ⊢
    generalize fo (rsp P s p (nI i)) x m (0, b) = D at h1 h2 h3 ⊢
    by_cases c : ARw P s p (x + m)
    · rw [rsp_y c, rsp_y c]
      dsimp only at hle ⊢
      rw [← h1]
      refine ⟨rfl, fun h => ?_, fun h => ?_⟩
      · by_cases e : nI A.1 = nI i
        · rw [if_pos e, if_pos e]
        · rw [if_neg e, if_neg e]
          rw [n_eq (by omega) hi] at e
          exact h2 (by omega)
      · rw [if_neg (by rw [n_eq (by omega) hi]; omega)]
        exact h3 (by omega)
    · rw [rsp_n c, rsp_n c]; exact ⟨h1, h2, h3⟩
