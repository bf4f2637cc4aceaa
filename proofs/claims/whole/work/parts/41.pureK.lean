/-! ===== the class runs a rule's code ===== -/
/-- a row holds a stack, the top first -/
def SM (row : Nat → Int32) (st : List Int32) : Prop := ∀ i, i < st.length → row i = st.reverse.getD i 0
theorem SM.nil {row : Nat → Int32} : SM row [] := fun i h => absurd h (Nat.not_lt_zero i)
theorem SM.push {row : Nat → Int32} {st : List Int32} (h : SM row st) (a : Int32) : SM (upd row st.length a) (a :: st) := by
  intro i hi
  simp only [List.length_cons] at hi
  rw [List.reverse_cons]
  by_cases e : i = st.length
  · subst e; rw [upd_s, List.getD_eq_getElem?_getD, List.getElem?_append_right (by simp)]; simp
  · rw [upd_n e, List.getD_eq_getElem?_getD, List.getElem?_append_left (by simp; omega), ← List.getD_eq_getElem?_getD]
    exact h i (by omega)
theorem SM.pop {row : Nat → Int32} {st : List Int32} {a : Int32} (h : SM row (a :: st)) : row st.length = a ∧ SM row st := by
  refine ⟨?_, fun i hi => ?_⟩
  · rw [h st.length (by simp), List.reverse_cons, List.getD_eq_getElem?_getD, List.getElem?_append_right (by simp)]; simp
  · rw [h i (by simp; omega), List.reverse_cons, List.getD_eq_getElem?_getD, List.getElem?_append_left (by simp; exact hi), ← List.getD_eq_getElem?_getD]
theorem zst_wr {σ : Mm} {c k : Nat} {v : Int32} : zst σ c k v = wr σ c (upd (σ c) k v) := rfl
theorem wr_wr {σ : Mm} {c : Nat} {r r2 : Nat → Int32} : wr (wr σ c r) c r2 = wr σ c r2 := by
  funext a; unfold wr; by_cases h : a = c
  · rw [if_pos h, if_pos h]
  · rw [if_neg h, if_neg h, if_neg h]
theorem wr_self {σ : Mm} {c : Nat} : wr σ c (σ c) = σ := by
  funext a; unfold wr; by_cases h : a = c
  · rw [if_pos h, h]
  · rw [if_neg h]
def WL (q fu : Nat) (x2 x3 : Int32) (σ : Mm) : Option (Int32 × Mm) := zfX4_worth_L4 q (fun σ244 => some (0, σ244)) (fun σ115 => some (0, σ115)) (fun x2_124 σ124 => ck (inb (x2_124 - 1) 160) (some (σ124 (q + 2) (ix (x2_124 - 1)), σ124))) (fun σ61 => some (0, σ61)) fu x2 x3 σ
theorem wl_c {q fu x L : Nat} {x2 c : Int32} {τ : Mm} (hL : τ q 2 = nI L) (hL2 : L ≤ 320) (hx : x < L) (hc : τ (q + 1) x = c) : WL q (fu + 1) x2 (nI x) τ =
    (fun (j238 : Int32 → Int32 → Mm → Option (Int32 × Mm)) => if 20000 ≤ c then (if x2 < 1 then some (0, τ) else (fun (j117 : Mm → Option (Int32 × Mm)) => if 2 ≤ x2 then (j117 τ) else (if (zfX4_isBetweenTwo (c - 20000)) = 0 then (j117 τ) else some (0, τ))) (fun σ117 => if c - 20000 = 59 then ck (inb (x2 - 1) 160) (some (σ117 (q + 2) (ix (x2 - 1)), σ117)) else (if c - 20000 = 33 then (ck (inb (x2 - 1) 160) (ck (inb (x2 - 1) 160) (j238 x2 (nI x) (zst σ117 (q + 2) (ix (x2 - 1)) (1 - (σ117 (q + 2) (ix (x2 - 1)))))))) else (if c - 20000 = 63 then (ck (inb (x2 + (-1)) 160) (if (σ117 (q + 2) (ix (x2 + (-1)))) = 0 then (if 320 ≤ nI x + 1 then (j238 (x2 + (-1)) (nI x + 1) σ117) else (ck (inb (nI x + 1) 320) (j238 (x2 + (-1)) (zmax (nI x + 1) ((σ117 (q + 1) (ix (nI x + 1))) - 1)) σ117))) else (j238 (x2 + (-1)) (nI x + 1) σ117))) else (ck (inb ((x2 + (-1)) - 1) 160) (ck (inb (x2 + (-1)) 160) (bd (zfX4_joined (c - 20000) (σ117 (q + 2) (ix ((x2 + (-1)) - 1))) (σ117 (q + 2) (ix (x2 + (-1))))) (fun r234 => ck (inb ((x2 + (-1)) - 1) 160) (j238 (x2 + (-1)) (nI x) (zst σ117 (q + 2) (ix ((x2 + (-1)) - 1)) r234))))))))))
    else (if 160 ≤ x2 then some (0, τ) else (if c - 10000 < 6 then (fun (j82 : Int32 → Mm → Option (Int32 × Mm)) => if 0 ≤ c - 10000 then (ck (inb (c - 10000) 6) (j82 (τ 42 (ix (c - 10000))) τ)) else (j82 c τ)) (fun y0_82 σ82 => ck (inb x2 160) (j238 (x2 + 1) (nI x) (zst σ82 (q + 2) (ix x2) y0_82))) else some (0, τ)))) (fun a b S => WL q fu a (b + 1) S) := by
  conv => lhs; unfold WL zfX4_worth_L4
  rw [hL, if_neg (by rw [n_le (by omega) (by omega)]; omega), if_neg (by rw [show (320 : Int32) = nI 320 from rfl, n_le (by decide) (by omega)]; omega), ck_t ((n_in (by omega)).mpr (by omega)), n_ix (by omega)]
  rw [lt_p, hc]
  simp only [lt_p]
  rfl
