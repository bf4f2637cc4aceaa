/-! ===== the class runs a rule's code ===== -/
/-- a row holds a stack, the top first -/
def SM (row : Nat → Int32) (st : List Int32) : Prop := ∀ i, i < st.length → row i = st.reverse.getD i 0
theorem SM.nil {row : Nat → Int32} : SM row [] := fun i h => absurd h (Nat.not_lt_zero i)
theorem SM.push {row : Nat → Int32} {st : List Int32} (h : SM row st) (a : Int32) : SM (upd row st.length a) (a :: st) := by
  intro i hi
  simp only [List.length_cons] at hi
  rw [List.reverse_cons]
  by_cases e : i = st.length
  · subst e; rw [upd_s, List.getD_eq_getElem?_getD, List.getElem?_append_right (by simp)]; simp
  · rw [upd_n e, List.getD_eq_getElem?_getD, List.getElem?_append_left (by simp; omega), ← List.getD_eq_getElem?_getD]
    exact h i (by omega)
theorem SM.pop {row : Nat → Int32} {st : List Int32} {a : Int32} (h : SM row (a :: st)) : row st.length = a ∧ SM row st := by
  refine ⟨?_, fun i hi => ?_⟩
  · rw [h st.length (by simp), List.reverse_cons, List.getD_eq_getElem?_getD, List.getElem?_append_right (by simp)]; simp
  · rw [h i (by simp; omega), List.reverse_cons, List.getD_eq_getElem?_getD, List.getElem?_append_left (by simp; exact hi), ← List.getD_eq_getElem?_getD]
theorem zst_wr {σ : Mm} {c k : Nat} {v : Int32} : zst σ c k v = wr σ c (upd (σ c) k v) := rfl
theorem wr_wr {σ : Mm} {c : Nat} {r r2 : Nat → Int32} : wr (wr σ c r) c r2 = wr σ c r2 := by
  funext a; unfold wr; by_cases h : a = c
  · rw [if_pos h, if_pos h]
  · rw [if_neg h, if_neg h, if_neg h]
theorem wr_self {σ : Mm} {c : Nat} : wr σ c (σ c) = σ := by
  funext a; unfold wr; by_cases h : a = c
  · rw [if_pos h, h]
  · rw [if_neg h]
def WL (q fu : Nat) (x2 x3 : Int32) (σ : Mm) : Option (Int32 × Mm) := zfX4_worth_L4 q (fun σ244 => some (0, σ244)) (fun σ115 => some (0, σ115)) (fun x2_124 σ124 => ck (inb (x2_124 - 1) 160) (some (σ124 (q + 2) (ix (x2_124 - 1)), σ124))) (fun σ61 => some (0, σ61)) fu x2 x3 σ
theorem wl_lo {q fu x L : Nat} {x2 c : Int32} {τ : Mm} (hL : τ q 2 = nI L) (hL2 : L ≤ 320) (hx : x < L) (hc : τ (q + 1) x = c) (h : c < 20000) (h160 : ¬ 160 ≤ x2) : WL q (fu + 1) x2 (nI x) τ =
    if c - 10000 < 6 then (if 0 ≤ c - 10000 then (ck (inb (c - 10000) 6) (ck (inb x2 160) (WL q fu (x2 + 1) (nI x + 1) (zst τ (q + 2) (ix x2) (τ 42 (ix (c - 10000))))))) else ck (inb x2 160) (WL q fu (x2 + 1) (nI x + 1) (zst τ (q + 2) (ix x2) c))) else some (0, τ) := by
  conv => lhs; unfold WL zfX4_worth_L4
  rw [hL, if_neg (by rw [n_le (by omega) (by omega)]; omega), if_neg (by rw [show (320 : Int32) = nI 320 from rfl, n_le (by decide) (by omega)]; omega), ck_t ((n_in (by omega)).mpr (by omega)), n_ix (by omega)]
  rw [lt_p, hc]
  simp only [lt_p]
  rw [if_neg (show ¬ (20000 : Int32) ≤ c from fun q => by rw [Int32.le_iff_toInt_le] at q; rw [Int32.lt_iff_toInt_lt] at h; omega), if_neg h160]
  rfl
theorem wl_hi {q fu x L : Nat} {x2 c : Int32} {τ : Mm} (hL : τ q 2 = nI L) (hL2 : L ≤ 320) (hx : x < L) (hc : τ (q + 1) x = c) (h : ¬ c < 20000) (h1 : ¬ x2 < 1) (h2 : 2 ≤ x2 ∨ zfX4_isBetweenTwo (c - 20000) = 0) : WL q (fu + 1) x2 (nI x) τ =
    if c - 20000 = 59 then ck (inb (x2 - 1) 160) (some (τ (q + 2) (ix (x2 - 1)), τ)) else (if c - 20000 = 33 then (ck (inb (x2 - 1) 160) (ck (inb (x2 - 1) 160) (WL q fu x2 (nI x + 1) (zst τ (q + 2) (ix (x2 - 1)) (1 - (τ (q + 2) (ix (x2 - 1)))))))) else (if c - 20000 = 63 then (ck (inb (x2 + (-1)) 160) (if (τ (q + 2) (ix (x2 + (-1)))) = 0 then (if 320 ≤ nI x + 1 then (WL q fu (x2 + (-1)) (nI x + 1 + 1) τ) else (ck (inb (nI x + 1) 320) (WL q fu (x2 + (-1)) (zmax (nI x + 1) ((τ (q + 1) (ix (nI x + 1))) - 1) + 1) τ))) else (WL q fu (x2 + (-1)) (nI x + 1 + 1) τ))) else (ck (inb ((x2 + (-1)) - 1) 160) (ck (inb (x2 + (-1)) 160) (bd (zfX4_joined (c - 20000) (τ (q + 2) (ix ((x2 + (-1)) - 1))) (τ (q + 2) (ix (x2 + (-1))))) (fun r234 => ck (inb ((x2 + (-1)) - 1) 160) (WL q fu (x2 + (-1)) (nI x + 1) (zst τ (q + 2) (ix ((x2 + (-1)) - 1)) r234)))))))) := by
  conv => lhs; unfold WL zfX4_worth_L4
  rw [hL, if_neg (by rw [n_le (by omega) (by omega)]; omega), if_neg (by rw [show (320 : Int32) = nI 320 from rfl, n_le (by decide) (by omega)]; omega), ck_t ((n_in (by omega)).mpr (by omega)), n_ix (by omega)]
  rw [lt_p, hc]
  simp only [lt_p]
  rw [if_pos (show (20000 : Int32) ≤ c by rw [Int32.le_iff_toInt_le]; rw [Int32.lt_iff_toInt_lt] at h; omega), if_neg h1]
  by_cases h3 : 2 ≤ x2
  · rw [if_pos h3]; rfl
  · rw [if_neg h3, if_pos (h2.resolve_left h3)]; rfl
theorem zbig_len : zbig.length = 1000 := List.length_replicate
theorem wl_step {q fu x L : Nat} {c : Int32} {τ : Mm} {st : List Int32} (hL : τ q 2 = nI L) (hL2 : L ≤ 320) (hx : x < L) (hc : τ (q + 1) x = c) (hst : SM (τ (q + 2)) st) (h160 : st.length < 160) (hb : (stp (τ 42) c st).length < 1000) :
    ∃ row', SM row' (stp (τ 42) c st) ∧ WL q (fu + 1) (nI st.length) (nI x) τ = WL q fu (nI (stp (τ 42) c st).length) (nI (x + 1)) (wr τ (q + 2) row') := by
  have hbig : ¬ zbig.length < 1000 := by rw [zbig_len]; omega
  have e1 : nI x + 1 = nI (x + 1) := n_add _ 1
  by_cases h2 : c < 20000
  · have h16 : ¬ (160 : Int32) ≤ nI st.length := by rw [show (160 : Int32) = nI 160 from rfl, n_le (by decide) (by omega)]; omega
    have e2 : nI st.length + 1 = nI (st.length + 1) := n_add _ 1
    by_cases h1 : c < 10000
    · by_cases h0 : c < 0
      · exfalso; unfold stp at hb; rw [if_pos h2, if_pos h1, if_pos h0] at hb; exact hbig hb
      · have es : stp (τ 42) c st = c :: st := by unfold stp; rw [if_pos h2, if_pos h1, if_neg h0]
        have g1 : c - 10000 < 6 := by clear hc hb es; grind
        have g2 : ¬ 0 ≤ c - 10000 := by clear hc hb es; grind
        rw [es, wl_lo hL hL2 hx hc h2 h16, if_pos g1, if_neg g2, ck_t ((n_in (by omega)).mpr h160), n_ix (by omega), zst_wr, e1, e2]
        exact ⟨_, hst.push c, rfl⟩
    · by_cases h6 : c < 10006
      · have es : stp (τ 42) c st = τ 42 (ix (c - 10000)) :: st := by unfold stp; rw [if_pos h2, if_neg h1, if_pos h6]
        have hn : c = nI (ix c) := n_of' (by clear hc hb es; grind)
        have hb1 : 10000 ≤ ix c ∧ ix c < 10006 := by
          rw [hn, show (10000 : Int32) = nI 10000 from rfl, n_lt ix_b (by decide)] at h1
          rw [hn, show (10006 : Int32) = nI 10006 from rfl, n_lt ix_b (by decide)] at h6
          omega
        have e3 : c - 10000 = nI (ix c - 10000) := by
          conv => lhs; rw [hn]
          rw [show (10000 : Int32) = nI 10000 from rfl, n_sub hb1.1]
        have g1 : nI (ix c - 10000) < 6 := by rw [show (6 : Int32) = nI 6 from rfl, n_lt (by omega) (by decide)]; omega
        have g2 : 0 ≤ nI (ix c - 10000) := by rw [show (0 : Int32) = nI 0 from rfl, n_le (by decide) (by omega)]; omega
        rw [es, wl_lo hL hL2 hx hc h2 h16, e3, if_pos g1, if_pos g2, ck_t ((n_in (by omega)).mpr (by omega)), ck_t ((n_in (by omega)).mpr h160), n_ix (by omega : st.length < 2147483648), zst_wr, e1, e2]
        exact ⟨_, hst.push _, rfl⟩
      · exfalso; unfold stp at hb; rw [if_pos h2, if_neg h1, if_neg h6] at hb; exact hbig hb
  · by_cases h59 : c = 20059 ∨ c = 20063
    · exfalso; unfold stp at hb; rw [if_neg h2, if_pos h59] at hb; exact hbig hb
    · have k59 : ¬ c - 20000 = 59 := fun q => h59 (Or.inl (by clear hc hb h59; grind))
      have k63 : ¬ c - 20000 = 63 := fun q => h59 (Or.inr (by clear hc hb h59; grind))
      match st, hst, h160, hb with
      | [], _, _, hb => exfalso; unfold stp at hb; rw [if_neg h2, if_neg h59] at hb; exact hbig hb
      | [b], hst, _, hb =>
        by_cases h33 : c = 20033
        · have es : stp (τ 42) c [b] = [1 - b] := by unfold stp; rw [if_neg h2, if_neg h59]; exact if_pos h33
          have hp := hst.pop
          have e2 : τ (q + 2) 0 = b := hp.1
          have e0 : ix ((1 : Int32) - 1) = 0 := by decide
          have e9 : nI ([b] : List Int32).length = 1 := rfl
          have k33 : c - 20000 = 33 := by rw [h33]; decide
          rw [es, e9, wl_hi hL hL2 hx hc h2 (by decide) (Or.inr (by rw [h33]; decide)), if_neg k59, if_pos k33, ck_t (by decide), ck_t (by decide), zst_wr, e1, e0, e2]
          exact ⟨_, (SM.nil (row := τ (q + 2))).push (1 - b), rfl⟩
        · exfalso; unfold stp at hb; rw [if_neg h2, if_neg h59] at hb; simp only at hb; rw [if_neg h33] at hb; exact hbig hb
      | b :: a :: st, hst, h160, hb =>
        have hp := hst.pop
        have hp2 := hp.2.pop
        have l1 : (b :: a :: st).length = st.length + 2 := rfl
        have l2 : (a :: st).length = st.length + 1 := rfl
        rw [l1] at h160
        rw [l2] at hp
        have x1 : nI (st.length + 2) - 1 = nI (st.length + 1) := by rw [show (1 : Int32) = nI 1 from rfl, n_sub (by omega)]; rfl
        have x2 : nI (st.length + 2) + (-1) = nI (st.length + 1) := n_neg _
        have x3 : nI (st.length + 1) - 1 = nI st.length := by rw [show (1 : Int32) = nI 1 from rfl, n_sub (by omega)]; rfl
        have w := wl_hi (fu := fu) (x2 := nI (st.length + 2)) hL hL2 hx hc h2 (by rw [show (1 : Int32) = nI 1 from rfl, n_lt (by omega) (by decide)]; omega) (Or.inl (by rw [show (2 : Int32) = nI 2 from rfl, n_le (by decide) (by omega)]; omega))
        rw [if_neg k59, x1, x2, x3, n_ix (by omega : st.length + 1 < 2147483648), n_ix (by omega : st.length < 2147483648), hp.1, hp2.1, e1] at w
        by_cases h33 : c = 20033
        · have es : stp (τ 42) c (b :: a :: st) = (1 - b) :: a :: st := by unfold stp; rw [if_neg h2, if_neg h59]; exact if_pos h33
          have k33 : c - 20000 = 33 := by rw [h33]; decide
          rw [if_pos k33, ck_t ((n_in (by omega)).mpr (by omega)), ck_t ((n_in (by omega)).mpr (by omega)), zst_wr] at w
          rw [es, l1, w]
          exact ⟨_, hp.2.push (1 - b), rfl⟩
        · have es : stp (τ 42) c (b :: a :: st) = jn (c - 20000) a b :: st := by unfold stp; rw [if_neg h2, if_neg h59]; exact if_neg h33
          have k33 : ¬ c - 20000 = 33 := fun q => h33 (by clear hc hb es w; grind)
          rw [if_neg k33, if_neg k63, ck_t ((n_in (by omega)).mpr (by omega)), ck_t ((n_in (by omega)).mpr (by omega)), jn_some, bd_some, ck_t ((n_in (by omega)).mpr (by omega)), zst_wr] at w
          rw [es, l1, w]
          exact ⟨_, hp2.2.push _, rfl⟩
