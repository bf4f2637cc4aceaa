theorem stp_len {lam : Nat → Int32} {c : Int32} {st : List Int32} : min st.length 1000 ≤ (stp lam c st).length + 1 ∧ ((stp lam c st).length ≤ st.length + 1 ∨ (stp lam c st).length = 1000) := by
  unfold stp
  split
  · split
    · split
      · rw [zbig_len]; omega
      · simp; omega
    · split
      · simp; omega
      · rw [zbig_len]; omega
  · split
    · rw [zbig_len]; omega
    · split
      · split <;> simp <;> omega
      · split
        · simp
        · rw [zbig_len]; simp
      · rw [zbig_len]; simp
theorem run_len {lam : Nat → Int32} {C : List Int32} : ∀ {st : List Int32}, min st.length 1000 ≤ (run lam C st).length + C.length := by
  induction C with
  | nil => intro st; show min st.length 1000 ≤ st.length + 0; omega
  | cons c C ih =>
    intro st
    have h1 := ih (st := stp lam c st)
    have h2 := (stp_len (lam := lam) (c := c) (st := st)).1
    have h3 : run lam (c :: C) st = run lam C (stp lam c st) := rfl
    rw [h3, List.length_cons]
    omega
/-- what of the memory a run of code looks at -/
def RQ (q L : Nat) (P : List Int32) (lam : Nat → Int32) (τ : Mm) : Prop := zIsR q ∧ τ q 2 = nI L ∧ L ≤ 320 ∧ P.length = L ∧ (∀ i, i < L → τ (q + 1) i = P.getD i 0) ∧ τ 42 = lam
theorem RQ.wr {q L : Nat} {P : List Int32} {lam : Nat → Int32} {τ : Mm} (h : RQ q L P lam τ) (r : Nat → Int32) : RQ q L P lam (wr τ (q + 2) r) := by
  obtain ⟨hq, h1, h2, h3, h4, h5⟩ := h
  have hq' := hq
  unfold zIsR at hq'
  exact ⟨hq, by rw [wr_n (by omega)]; exact h1, h2, h3, fun i hi => by rw [wr_n (by omega)]; exact h4 i hi, by rw [wr_n (by omega)]; exact h5⟩
/-- the code C stands at x -/
def At (P : List Int32) (x : Nat) (C : List Int32) : Prop := x + C.length ≤ P.length ∧ ∀ i, i < C.length → P.getD (x + i) 0 = C.getD i 0
theorem At.app {P : List Int32} {x : Nat} {C D : List Int32} (h : At P x (C ++ D)) : At P x C ∧ At P (x + C.length) D := by
  obtain ⟨h1, h2⟩ := h
  rw [List.length_append] at h1 h2
  refine ⟨⟨by omega, fun i hi => ?_⟩, ⟨by omega, fun i hi => ?_⟩⟩
  · rw [h2 i (by omega), List.getD_eq_getElem?_getD, List.getElem?_append_left hi, ← List.getD_eq_getElem?_getD]
  · rw [Nat.add_assoc, h2 (C.length + i) (by omega), List.getD_eq_getElem?_getD, List.getElem?_append_right (by omega), ← List.getD_eq_getElem?_getD, show C.length + i - C.length = i by omega]
theorem At.hd {P : List Int32} {x : Nat} {c : Int32} {C : List Int32} (h : At P x (c :: C)) : x < P.length ∧ P.getD x 0 = c ∧ At P (x + 1) C := by
  obtain ⟨h1, h2⟩ := h
  rw [List.length_cons] at h1 h2
  refine ⟨by omega, h2 0 (by omega), by omega, fun i hi => ?_⟩
  have := h2 (i + 1) (by omega)
  rw [show x + (i + 1) = x + 1 + i by omega] at this
  rw [this]; rfl
theorem wl_run {q L : Nat} {P : List Int32} {lam : Nat → Int32} {C : List Int32} : ∀ {st : List Int32} {x fu : Nat} {τ : Mm}, RQ q L P lam τ → At P x C → SM (τ (q + 2)) st → st.length + C.length ≤ 160 → (∃ v, run lam C st = [v]) →
    ∃ row', SM row' (run lam C st) ∧ WL q (fu + C.length) (nI st.length) (nI x) τ = WL q fu (nI (run lam C st).length) (nI (x + C.length)) (wr τ (q + 2) row') := by
  induction C with
  | nil =>
    intro st x fu τ _ _ hst _ _
    exact ⟨τ (q + 2), hst, by rw [wr_self]; rfl⟩
  | cons c C ih =>
    intro st x fu τ hQ hA hst h160 hv
    obtain ⟨hx, hc, hA'⟩ := hA.hd
    obtain ⟨hq, h1, h2, h3, h4, h5⟩ := id hQ
    rw [List.length_cons] at h160
    have e : run lam (c :: C) st = run lam C (stp lam c st) := rfl
    rw [e] at hv ⊢
    obtain ⟨v, hv⟩ := hv
    have l1 := run_len (lam := lam) (C := C) (st := stp lam c st)
    have l2 := stp_len (lam := lam) (c := c) (st := st)
    rw [hv] at l1
    have l1 : min (stp lam c st).length 1000 ≤ 1 + C.length := l1
    obtain ⟨row1, g1, g2⟩ := wl_step (fu := fu + C.length) h1 h2 (h3 ▸ hx) ((h4 x (h3 ▸ hx)).trans hc) hst (by omega) (by rw [h5]; omega)
    rw [h5] at g1 g2
    obtain ⟨row2, k1, k2⟩ := ih (st := stp lam c st) (x := x + 1) (fu := fu) (hQ.wr row1) hA' (by rw [wr_s]; exact g1) (by omega) ⟨v, hv⟩
    refine ⟨row2, k1, ?_⟩
    rw [List.length_cons, ← Nat.add_assoc, g2, k2, wr_wr, show x + (C.length + 1) = x + 1 + C.length by omega]
theorem PV_some {q L : Nat} {P : List Int32} {lam : Nat → Int32} {cs : List (Option (List Int32) × List Int32)} : ∀ {l fu : Nat} {τ : Mm} {v : Int32}, RQ q L P lam τ → At P l (prg l cs) → l + plen cs = L → (∀ c ∈ cs, clen c ≤ 160) → PV lam cs v → plen cs < fu →
    ∃ row', WL q fu (nI 0) (nI l) τ = some (v, wr τ (q + 2) row') := by
  induction cs with
  | nil =>
    intro l fu τ v hQ hA hl _ hV hf
    obtain ⟨fu, rfl⟩ : ∃ g, fu = g + 1 := ⟨fu - 1, by have : plen [] = 0 := rfl; omega⟩
    obtain ⟨hq, h1, h2, h3, h4, h5⟩ := id hQ
    have hV : v = 0 := hV
    have hl : l = L := hl
    refine ⟨τ (q + 2), ?_⟩
    unfold WL zfX4_worth_L4
    rw [h1, hl, if_pos (by rw [n_le (by omega) (by omega)]; omega), hV, wr_self]
  | cons c cs ih =>
    intro l fu τ v hQ hA hl hcl hV hf
    obtain ⟨hq, h1, h2, h3, h4, h5⟩ := id hQ
    have hA : At P l (cdl l c ++ prg (l + clen c) cs) := hA
    have hpl : plen (c :: cs) = clen c + plen cs := rfl
    rw [hpl] at hl hf
    obtain ⟨hA1, hA2⟩ := hA.app
    rw [cdl_len] at hA2
    obtain ⟨b, w, ⟨hC, hS⟩, hw⟩ := hV
    have hcc := hcl c (List.mem_cons_self)
    obtain ⟨c1, c2⟩ := c
    -- the sum, read to its end
    have fin : ∀ (y fu' : Nat) (τ' : Mm), RQ q L P lam τ' → At P y (c2 ++ [20059]) → c2.length + 1 ≤ 160 → ∃ row', WL q (fu' + 1 + c2.length) (nI 0) (nI y) τ' = some (w, wr τ' (q + 2) row') := by
      intro y fu' τ' hQ' hA' h16
      obtain ⟨a1, a2⟩ := hA'.app
      obtain ⟨row', k1, k2⟩ := wl_run (st := []) (fu := fu' + 1) hQ' a1 SM.nil (by rw [List.length_nil]; omega) ⟨w, hS⟩
      rw [hS] at k1 k2
      have k2 : WL q (fu' + 1 + c2.length) (nI 0) (nI y) τ' = WL q (fu' + 1) 1 (nI (y + c2.length)) (wr τ' (q + 2) row') := k2
      obtain ⟨b1, b2, -⟩ := a2.hd
      obtain ⟨hq, g1, g2, g3, g4, g5⟩ := hQ'.wr row'
      refine ⟨row', ?_⟩
      rw [k2, wl_hi (c := 20059) g1 g2 (g3 ▸ b1) ((g4 _ (g3 ▸ b1)).trans b2) (by decide) (by decide) (Or.inr (by decide)), if_pos (by decide), ck_t (by decide), wr_s]
      have : row' 0 = w := k1.pop.1
      rw [show ix ((1 : Int32) - 1) = 0 by decide, this]
    match c1, hC with
    | none, hC =>
      have hb : b = 1 := hC
      rw [if_neg (by rw [hb]; decide)] at hw
      have hcl1 : clen (none, c2) = c2.length + 1 := rfl
      rw [hcl1] at hf hcc
      obtain ⟨g, rfl⟩ : ∃ g, fu = g + 1 + c2.length := ⟨fu - 1 - c2.length, by omega⟩
      rw [hw]
      exact fin l g τ hQ hA1 (by omega)
    | some C, hC =>
      have hcl1 : clen (some C, c2) = C.length + c2.length + 3 := rfl
      rw [hcl1] at hf hcc hA2 hl
      have hA1 : At P l (C ++ ([20063, nI (l + C.length + c2.length + 3)] ++ c2 ++ [20059])) := hA1
      obtain ⟨a1, a2⟩ := hA1.app
      rw [List.append_assoc] at a2
      obtain ⟨b1, b2, a3⟩ := At.hd (C := [nI (l + C.length + c2.length + 3)] ++ (c2 ++ [20059])) a2
      obtain ⟨b3, b4, a4⟩ := At.hd (C := c2 ++ [20059]) a3
      obtain ⟨g, rfl⟩ : ∃ g, fu = g + 1 + 1 + c2.length + 1 + C.length := ⟨fu - 3 - C.length - c2.length, by omega⟩
      have hC : run lam C [] = [b] := hC
      obtain ⟨row', k1, k2⟩ := wl_run (st := []) (fu := g + 1 + 1 + c2.length + 1) hQ a1 SM.nil (by rw [List.length_nil]; omega) ⟨b, hC⟩
      rw [hC] at k1 k2
      have k2 : WL q (g + 1 + 1 + c2.length + 1 + C.length) (nI 0) (nI l) τ = WL q (g + 1 + 1 + c2.length + 1) 1 (nI (l + C.length)) (wr τ (q + 2) row') := k2
      have hQ' := hQ.wr row'
      obtain ⟨-, g1, g2, g3, g4, g5⟩ := id hQ'
      have e0 : ix ((1 : Int32) + (-1)) = 0 := by decide
      have e1 : (1 : Int32) + (-1) = nI 0 := by decide
      have e2 : nI (l + C.length) + 1 = nI (l + C.length + 1) := n_add _ 1
      have e3 : row' 0 = b := k1.pop.1
      rw [k2, wl_hi (c := 20063) g1 g2 (g3 ▸ b1) ((g4 _ (g3 ▸ b1)).trans b2) (by decide) (by decide) (Or.inr (by decide)), if_neg (by decide), if_neg (by decide), if_pos (by decide), ck_t (by decide), wr_s, e0, e3, e1, e2]
      by_cases hb : b = 0
      · rw [if_pos hb] at hw
        rw [if_pos hb, if_neg (by rw [show (320 : Int32) = nI 320 from rfl, n_le (by decide) (by omega)]; omega), ck_t ((n_in (by omega)).mpr (by omega)), n_ix (by omega), g4 _ (by omega), b4]
        have e4 : zmax (nI (l + C.length + 1)) (nI (l + C.length + c2.length + 3) - 1) + 1 = nI (l + (C.length + c2.length + 3)) := by
          rw [show (1 : Int32) = nI 1 from rfl, n_sub (by omega), n_zmax (by omega) (by omega), n_add]
          congr 1; omega
        rw [e4]
        obtain ⟨row2, k3⟩ := ih (l := l + (C.length + c2.length + 3)) (fu := g + 1 + 1 + c2.length) (τ := wr τ (q + 2) row') hQ' hA2 (by omega) (fun c hc => hcl c (List.mem_cons_of_mem _ hc)) hw (by omega)
        exact ⟨row2, by rw [k3, wr_wr]⟩
      · rw [if_neg hb] at hw
        rw [if_neg hb]
        have e5 : nI (l + C.length + 1) + 1 = nI (l + C.length + 1 + 1) := n_add _ 1
        obtain ⟨row2, k3⟩ := fin (l + C.length + 1 + 1) (g + 1) (wr τ (q + 2) row') hQ' a4 (by omega)
        exact ⟨row2, by rw [e5, k3, wr_wr, hw]⟩
theorem clen_le {cs : List (Option (List Int32) × List Int32)} : ∀ c ∈ cs, clen c ≤ plen cs := by
  induction cs with
  | nil => intro c hc; cases hc
  | cons d cs ih =>
    intro c hc
    show _ ≤ clen d + plen cs
    rcases List.mem_cons.mp hc with rfl | hc
    · omega
    · have := ih c hc; omega
/-- the class's run of a rule's code gives what the text is worth -/
theorem worth_c {q n : Nat} {cs : List (Option (List Int32) × List Int32)} {τ : Mm} {v : Int32} (hq : zIsR q) (hn : plen cs ≤ 160) (h2 : τ q 2 = nI (plen cs)) (hc : ∀ i, i < plen cs → τ (q + 1) i = (prg 0 cs).getD i 0) (hV : PV (τ 42) cs v) :
    ∃ row', zfX4_worth q τ = some (v, wr τ (q + 2) row') := by
  have hQ : RQ q (plen cs) (prg 0 cs) (τ 42) τ := ⟨hq, h2, by omega, prg_len, hc, rfl⟩
  have hA : At (prg 0 cs) 0 (prg 0 cs) := ⟨by omega, fun i hi => by rw [Nat.zero_add]⟩
  obtain ⟨row', h⟩ := PV_some (l := 0) (fu := NF) hQ hA (by omega) (fun c hc => by have := clen_le c hc; omega) hV (by unfold NF; omega)
  refine ⟨row', ?_⟩
  rw [← h]
  unfold zfX4_worth WL
  generalize NF = N
  simp only [lt_p, n_0]
