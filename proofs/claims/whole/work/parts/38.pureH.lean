/-! ===== a clause on both sides ===== -/
def clC (y : Int32) (S : Mm) : Option (Int32 × Mm) := bd2 (zfX5_condition (zfX5_unit RD) 0 y S) (fun r82 σ82 => if r82 = 0 then some (0, σ82) else tlC σ82)
def clB (S : Mm) : Option (Int32 × Mm) := bd2 (zfX3_sign_46 S) (fun r21 σ21 => if r21 = 33 ∨ r21 = 40 then clC 0 σ21 else bd2 (zfX5_sum RD 0 σ21) (fun r49 σ49 => if r49 = 0 then some (0, σ49) else bd2 (zfX3_sign_46 σ49) (fun r62 σ62 => if zfX5_isComparison r62 = 0 then bd2 (zfX5_put 20059 σ62) (fun r75 σ75 => ck (zbo r75) (some (r75, σ75))) else clC 1 σ62)))
def rlB (S : Mm) : Option Mm := bd2 (zfX12_look S) (fun r45 σ45 => if r45 = 33 ∨ r45 = 40 then bd2 (zfX12_condition (zfX12_unit RD) 0 0 σ45) (fun b σ' => tlR b σ') else bd2 (zfX12_sum RD σ45) (fun r90 σ90 => if (σ90 703 11) = (-1) then bd2 (zfX12_look σ90) (fun r103 σ103 => if zfX12_isSign r103 = 0 then jR 1 r90 σ103 else bd2 (zfX12_condition (zfX12_unit RD) 1 r90 σ103) (fun b σ' => tlR b σ')) else jR 1 r90 σ90))
theorem if_or2 {β : Type} {c d : Prop} [Decidable c] [Decidable d] {a b : β} : (if c then a else if d then a else b) = if c ∨ d then a else b := by
  by_cases h : c
  · rw [if_pos h, if_pos (Or.inl h)]
  · by_cases h2 : d
    · rw [if_neg h, if_pos h2, if_pos (Or.inr h2)]
    · rw [if_neg h, if_neg h2, if_neg (fun q => q.elim h h2)]
theorem cl_c {σ : Mm} {t : Nat → Int32} {n p q l : Nat} {w : Int32} {f : Nat → Int32} (hq : zIsR q) (hT : CT σ t n) (hp : p ≤ n) : zfX5_clause (CM σ q (nI p) w (nI l) f) =
    if sg t n (skp t n p) = 121 then (if sg t n (skp t n (skp t n p + 1)) = 58 then clB (CM σ q (nI (skp t n (skp t n p + 1) + 1)) w (nI l) f) else some (0, CM σ q (nI (skp t n (skp t n p + 1))) (nI (skp t n (skp t n p + 1))) (nI l) f)) else some (0, CM σ q (nI (skp t n p)) (nI (skp t n p)) (nI l) f) := by
  have hlt : sg t n (skp t n p) ≠ -1 → skp t n p < n := fun q => Classical.byContradiction fun q2 => q (if_neg q2)
  conv => lhs; unfold zfX5_clause
  unfold clB clC tlC
  generalize RD = N
  rw [c_take hq hT hp]
  by_cases h1 : sg t n (skp t n p) = 121
  · have hlt := hlt (by rw [h1]; decide)
    rw [if_pos h1, if_pos h1, bd2_some]
    simp only [lt_p, show ¬ (1 : Int32) = 0 by decide, if_false]
    rw [c_take hq hT (by omega)]
    by_cases h2 : sg t n (skp t n (skp t n p + 1)) = 58
    · rw [if_pos h2, if_pos h2, bd2_some, if_neg (show ¬ (1 : Int32) = 0 by decide)]
      congr 1
      funext r21 σ21
      rw [if_or2]
      simp only [if_true]
    · rw [if_neg h2, if_neg h2, bd2_some, if_pos rfl]
  · rw [if_neg h1, if_neg h1, bd2_some]
    simp only [lt_p, if_true]
theorem cl_r {σ : Mm} {t : Nat → Int32} {n p : Nat} (hR : RT σ t n) (hp : p ≤ n) : zfX12_clause (RM σ (nI p) (-1) (nI 0)) =
    if sg t n (skp t n p) = 121 then (if sg t n (skp t n (skp t n p + 1)) = 58 then rlB (RM σ (nI (skp t n (skp t n p + 1) + 1)) (-1) (nI 0)) else some (RM σ (nI (skp t n (skp t n p + 1))) (nI (skp t n (skp t n p + 1))) (nI 0))) else some (RM σ (nI (skp t n p)) (nI (skp t n p)) (nI 0)) := by
  have hlt : sg t n (skp t n p) ≠ -1 → skp t n p < n := fun q => Classical.byContradiction fun q2 => q (if_neg q2)
  conv => lhs; unfold zfX12_clause
  unfold rlB tlR jR
  generalize RD = N
  rw [r_lk hR hp, bd2_some, r_among_y, bd_some]
  by_cases h1 : sg t n (skp t n p) = 121
  · have hlt := hlt (by rw [h1]; decide)
    rw [if_pos h1, if_pos h1, if_neg (show ¬ (1 : Int32) = 0 by decide)]
    simp only [lt_p]
    rw [RM_at, RM_sa, show nI (skp t n p) + 1 = nI (skp t n p + 1) from n_add _ 1, r_takes hR (by omega)]
    by_cases h2 : sg t n (skp t n (skp t n p + 1)) = 58
    · rw [if_pos h2, if_pos h2, bd2_some, if_neg (show ¬ (1 : Int32) = 0 by decide), h1]
      congr 1
      funext r45 σ45
      rw [if_or2]
    · rw [if_neg h2, if_neg h2, bd2_some, if_pos rfl]
  · rw [if_neg h1, if_neg h1, if_pos rfl, r_fails, if_pos rfl, bd2_some]
def clen (c : Option (List Int32) × List Int32) : Nat := match c.1 with | none => c.2.length + 1 | some C => C.length + c.2.length + 3
/-- the code of a clause that begins at l -/
def cdl (l : Nat) (c : Option (List Int32) × List Int32) : List Int32 := match c.1 with | none => c.2 ++ [20059] | some C => C ++ ([20063, nI (l + C.length + c.2.length + 3)] ++ c.2 ++ [20059])
theorem cdl_len {l : Nat} {c : Option (List Int32) × List Int32} : (cdl l c).length = clen c := by
  unfold cdl clen
  split <;> simp only [List.length_append, List.length_cons, List.length_nil] <;> omega
/-- what a clause says and is worth -/
def ClV (lam : Nat → Int32) (c : Option (List Int32) × List Int32) (b v : Int32) : Prop := (match c.1 with | none => b = 1 | some C => run lam C [] = [b]) ∧ run lam c.2 [] = [v]
def RelC (t : Nat → Int32) (n p : Nat) : Prop :=
  (∃ e, p ≤ e ∧ e ≤ n ∧ (∀ σ q w l f, CT σ t n → zIsR q → σ 46 3 = nI q → l + (n - p) ≤ 300 → ∃ a l' f', zfX5_clause (CM σ q (nI p) w (nI l) f) = some (0, CM σ q a (nI e) l' f')) ∧ (∀ σ, RT σ t n → ∃ a d', zfX12_clause (RM σ (nI p) (-1) (nI 0)) = some (RM σ a (nI e) d'))) ∨
  (∃ p' c, p < p' ∧ p' ≤ n ∧ clen c ≤ p' - p ∧ (∀ σ q w l f, CT σ t n → zIsR q → σ 46 3 = nI q → l + (n - p) ≤ 300 → zfX5_clause (CM σ q (nI p) w (nI l) f) = some (1, CM σ q (nI p') w (nI (l + clen c)) (wrs f l (cdl l c)))) ∧
    (∀ σ, RT σ t n → σ 703 13 = 121 → ∃ b v, zfX12_clause (RM σ (nI p) (-1) (nI 0)) = some (RM (fnd σ b v) (nI p') (-1) (nI 0)) ∧ (LO σ → ClV (lamR σ) c b v)))
/-- a condition at p, told from b on, and the rest of the clause -/
theorem clC_rel {t : Nat → Int32} {n p : Nat} (ht : ∀ k, k < n → 0 ≤ (t k).toInt ∧ (t k).toInt < 256) (hn : n ≤ 160) {pre : Int32 → Int32 → List Int32} {y : Int32} {Fr : Int32 → Mm → Option (Int32 × Mm)}
    (H : Rel3 t n p 0 0 pre (fun _ _ => True) (zfX5_condition (zfX5_unit RD) (nI 0) y) (fun s _ => Fr s)) :
    (∃ e, p ≤ e ∧ e ≤ n ∧ (∀ σ q w l f, CT σ t n → zIsR q → σ 46 3 = nI q → l + (n - p) + 1 ≤ 300 → ∃ a l' f', clC y (CM σ q (nI p) w (nI l) f) = some (0, CM σ q a (nI e) l' f')) ∧ (∀ σ s, RT σ t n → ∃ a d', bd2 (Fr s (RM σ (nI p) (-1) (nI 0))) (fun b σ' => tlR b σ') = some (RM σ a (nI e) d'))) ∨
    (∃ p' C Cs, p < p' ∧ p' ≤ n ∧ C.length + Cs.length + 1 ≤ p' - p ∧ (∀ σ q w l f, CT σ t n → zIsR q → σ 46 3 = nI q → l + (n - p) + 1 ≤ 300 → clC y (CM σ q (nI p) w (nI l) f) = some (1, CM σ q (nI p') w (nI (l + C.length + Cs.length + 3)) (wrs f l (C ++ ([20063, nI (l + C.length + Cs.length + 3)] ++ Cs ++ [20059]))))) ∧
      (∀ σ s, RT σ t n → σ 703 13 = 121 → ∃ b v, bd2 (Fr s (RM σ (nI p) (-1) (nI 0))) (fun b σ' => tlR b σ') = some (RM (fnd σ b v) (nI p') (-1) (nI 0)) ∧ (LO σ → run (lamR σ) C (pre s 0) = [b] ∧ run (lamR σ) Cs [] = [v]))) := by
  rcases H with ⟨e, he0, he, hc, hr⟩ | ⟨p1, C, h1, h2, h4, hc, hr⟩
  · refine Or.inl ⟨e, he0, he, fun σ q w l f hT hq h3 h300 => ?_, fun σ s hR => ?_⟩
    · obtain ⟨a, l', f', hE⟩ := hc σ q w l f hT hq h3 (by omega)
      rw [n_0] at hE
      refine ⟨a, l', f', ?_⟩
      unfold clC
      rw [hE, bd2_some, if_pos rfl]
    · obtain ⟨v', a, d', hb, hE⟩ := hr σ s 0 hR trivial
      change Fr s _ = _ at hE
      refine ⟨a, d', ?_⟩
      rw [hE, bd2_some]
      unfold tlR
      rw [r_takes_f (n_ne1 (by omega)), bd2_some, if_pos rfl]
  · rcases tail_rel ht hn h2 with ⟨e, he0, he, hc', hr'⟩ | ⟨p', Cs, g1, g2, g4, hc', hr'⟩
    · refine Or.inl ⟨e, by omega, he, fun σ q w l f hT hq h3 h300 => ?_, fun σ s hR => ?_⟩
      · have hE := hc σ q w l f hT hq h3 (by omega)
        rw [n_0] at hE
        obtain ⟨a, l', f', hE'⟩ := hc' σ q w (l + C.length) (wrs f l C) hT hq h3 (by omega)
        refine ⟨a, l', f', ?_⟩
        unfold clC
        rw [hE, bd2_some, if_neg (by decide), hE']
      · obtain ⟨v', hb, hE, -⟩ := hr σ s 0 hR trivial
        change Fr s _ = _ at hE
        rw [hE, bd2_some]
        exact hr' σ v' hR
    · refine Or.inr ⟨p', C, Cs, by omega, g2, by omega, fun σ q w l f hT hq h3 h300 => ?_, fun σ s hR h13 => ?_⟩
      · have hE := hc σ q w l f hT hq h3 (by omega)
        rw [n_0] at hE
        unfold clC
        rw [hE, bd2_some, if_neg (by decide), hc' σ q w (l + C.length) (wrs f l C) hT hq h3 (by omega), wrs_app f l C]
      · obtain ⟨v', hb, hE, hv⟩ := hr σ s 0 hR trivial
        change Fr s _ = _ at hE
        obtain ⟨v, hE', hv'⟩ := hr' σ v' hR h13
        refine ⟨v', v, by rw [hE, bd2_some, hE'], fun hL => ⟨?_, hv' hL⟩⟩
        have := hv hL []
        rw [List.append_nil] at this
        exact this
theorem clause_rel {t : Nat → Int32} {n : Nat} (ht : ∀ k, k < n → 0 ≤ (t k).toInt ∧ (t k).toInt < 256) (hn : n ≤ 160) {p : Nat} (hp : p ≤ n) : RelC t n p := by
  have hp1 : p ≤ skp t n p := skp_ge
  have hp2 : skp t n p ≤ n := skp_le hp
  have hlt : ∀ k, sg t n k ≠ -1 → k < n := fun k q => Classical.byContradiction fun q2 => q (if_neg q2)
  by_cases h1 : sg t n (skp t n p) = 121
  case neg => exact Or.inl ⟨skp t n p, hp1, hp2, fun σ q w l f hT hq h3 h300 => ⟨_, _, _, by rw [cl_c hq hT hp, if_neg h1]⟩, fun σ hR => ⟨_, _, by rw [cl_r hR hp, if_neg h1]⟩⟩
  have l1 := hlt _ (by rw [h1]; decide)
  have hq1 : skp t n p + 1 ≤ skp t n (skp t n p + 1) := skp_ge
  have hq2 : skp t n (skp t n p + 1) ≤ n := skp_le (by omega)
  by_cases h2 : sg t n (skp t n (skp t n p + 1)) = 58
  case neg => exact Or.inl ⟨skp t n (skp t n p + 1), by omega, hq2, fun σ q w l f hT hq h3 h300 => ⟨_, _, _, by rw [cl_c hq hT hp, if_pos h1, if_neg h2]⟩, fun σ hR => ⟨_, _, by rw [cl_r hR hp, if_pos h1, if_neg h2]⟩⟩
  have l2 := hlt _ (by rw [h2]; decide)
  generalize hm : skp t n (skp t n p + 1) + 1 = m
  have hmn : m ≤ n := by omega
  have hcc : ∀ σ q w l f, CT σ t n → zIsR q → zfX5_clause (CM σ q (nI p) w (nI l) f) = clB (CM σ q (nI m) w (nI l) f) := by
    intro σ q w l f hT hq
    rw [cl_c hq hT hp, if_pos h1, if_pos h2, hm]
  have hrr : ∀ σ, RT σ t n → zfX12_clause (RM σ (nI p) (-1) (nI 0)) = rlB (RM σ (nI m) (-1) (nI 0)) := by
    intro σ hR
    rw [cl_r hR hp, if_pos h1, if_pos h2, hm]
  have hm1 : m ≤ skp t n m := skp_ge
  have hm2 : skp t n m ≤ n := skp_le hmn
  by_cases h3 : sg t n (skp t n m) = 33 ∨ sg t n (skp t n m) = 40
  · have hcb : ∀ σ q w l f, CT σ t n → zIsR q → clB (CM σ q (nI m) w (nI l) f) = clC 0 (CM σ q (nI (skp t n m)) w (nI l) f) := by
      intro σ q w l f hT hq
      unfold clB
      rw [c_sg hq hT hmn, bd2_some, if_pos h3]
    have hrb : ∀ σ, RT σ t n → rlB (RM σ (nI m) (-1) (nI 0)) = bd2 (zfX12_condition (zfX12_unit RD) 0 0 (RM σ (nI (skp t n m)) (-1) (nI 0))) (fun b σ' => tlR b σ') := by
      intro σ hR
      unfold rlB
      rw [r_lk hR hmn, bd2_some, if_pos h3]
    rcases clC_rel ht hn (cond_rel hn (fun p' hp' => unit_rel ht hn 6 RD 0 (by omega) (by decide) p' hp') hm2) with ⟨e, he0, he, hc, hr⟩ | ⟨p', C, Cs, g1, g2, g4, hc, hr⟩
    · refine Or.inl ⟨e, by omega, he, fun σ q w l f hT hq h3 h300 => ?_, fun σ hR => ?_⟩
      · rw [hcc σ q w l f hT hq, hcb σ q w l f hT hq]
        exact hc σ q w l f hT hq h3 (by omega)
      · rw [hrr σ hR, hrb σ hR]
        exact hr σ 0 hR
    · refine Or.inr ⟨p', (some C, Cs), by omega, g2, by show C.length + Cs.length + 3 ≤ _; omega, fun σ q w l f hT hq h3 h300 => ?_, fun σ hR h13 => ?_⟩
      · rw [hcc σ q w l f hT hq, hcb σ q w l f hT hq, hc σ q w l f hT hq h3 (by omega)]
        show _ = some (1, CM σ q (nI p') w (nI (l + (C.length + Cs.length + 3))) _)
        simp only [← Nat.add_assoc]
        rfl
      · obtain ⟨b, v, hE, hv⟩ := hr σ 0 hR h13
        exact ⟨b, v, by rw [hrr σ hR, hrb σ hR]; exact hE, fun hL => hv hL⟩
  · have hrb : ∀ σ, RT σ t n → rlB (RM σ (nI m) (-1) (nI 0)) = bd2 (zfX12_sum RD (RM σ (nI (skp t n m)) (-1) (nI 0))) (fun r90 σ90 => if (σ90 703 11) = (-1) then bd2 (zfX12_look σ90) (fun r103 σ103 => if zfX12_isSign r103 = 0 then jR 1 r90 σ103 else bd2 (zfX12_condition (zfX12_unit RD) 1 r90 σ103) (fun b σ' => tlR b σ')) else jR 1 r90 σ90) := by
      intro σ hR
      unfold rlB
      rw [r_lk hR hmn, bd2_some, if_neg h3]
    have hcb : ∀ σ q w l f, CT σ t n → zIsR q → clB (CM σ q (nI m) w (nI l) f) = bd2 (zfX5_sum RD (nI 0) (CM σ q (nI (skp t n m)) w (nI l) f)) (fun r49 σ49 => if r49 = 0 then some (0, σ49) else bd2 (zfX3_sign_46 σ49) (fun r62 σ62 => if zfX5_isComparison r62 = 0 then bd2 (zfX5_put 20059 σ62) (fun r75 σ75 => ck (zbo r75) (some (r75, σ75))) else clC 1 σ62)) := by
      intro σ q w l f hT hq
      unfold clB
      rw [c_sg hq hT hmn, bd2_some, if_neg h3, n_0]
    rcases sum_rel ht hn 6 RD 0 (by omega) (by decide) (skp t n m) hm2 with ⟨e, he0, he, hc, hr⟩ | ⟨p1, C, g1, g2, g4, hc, hr⟩
    · refine Or.inl ⟨e, by omega, he, fun σ q w l f hT hq h3 h300 => ?_, fun σ hR => ?_⟩
      · obtain ⟨a, l', f', hE⟩ := hc σ q w l f hT hq h3 (by omega)
        exact ⟨a, l', f', by rw [hcc σ q w l f hT hq, hcb σ q w l f hT hq, hE, bd2_some, if_pos rfl]⟩
      · obtain ⟨v, a, d', hE⟩ := hr σ hR
        exact ⟨a, d', by rw [hrr σ hR, hrb σ hR, hE, bd2_some, RM_f, if_neg (n_ne1 (by omega)), jR_f (n_ne1 (by omega))]⟩
    · have hs1 : p1 ≤ skp t n p1 := skp_ge
      have hs2 : skp t n p1 ≤ n := skp_le g2
      by_cases hi : isc (sg t n (skp t n p1))
      · rcases clC_rel ht hn (condB_rel ht hn (by omega) (fun p' hp' => unit_rel ht hn 6 RD 0 (by omega) (by decide) p' hp') hs2 skp_skp) with ⟨e, he0, he, hc', hr'⟩ | ⟨p', C', Cs, k1, k2, k4, hc', hr'⟩
        · refine Or.inl ⟨e, by omega, he, fun σ q w l f hT hq h3 h300 => ?_, fun σ hR => ?_⟩
          · obtain ⟨a, l', f', hE⟩ := hc' σ q w (l + C.length) (wrs f l C) hT hq h3 (by omega)
            exact ⟨a, l', f', by rw [hcc σ q w l f hT hq, hcb σ q w l f hT hq, hc σ q w l f hT hq h3 (by omega), bd2_some, if_neg (by decide), c_sg hq hT g2, bd2_some, if_neg (fun q => (c_isc _).mp q hi)]; exact hE⟩
          · obtain ⟨v, hE, hv⟩ := hr σ hR
            obtain ⟨a, d', hE'⟩ := hr' σ v hR
            exact ⟨a, d', by rw [hrr σ hR, hrb σ hR, hE, bd2_some, RM_f, if_pos rfl, r_lk hR g2, bd2_some, if_neg (fun q => (r_isc _).mp q hi)]; exact hE'⟩
        · refine Or.inr ⟨p', (some (C ++ C'), Cs), by omega, k2, by show (C ++ C').length + Cs.length + 3 ≤ _; rw [List.length_append]; omega, fun σ q w l f hT hq h3 h300 => ?_, fun σ hR h13 => ?_⟩
          · have hE := hc' σ q w (l + C.length) (wrs f l C) hT hq h3 (by omega)
            rw [hcc σ q w l f hT hq, hcb σ q w l f hT hq, hc σ q w l f hT hq h3 (by omega), bd2_some, if_neg (by decide), c_sg hq hT g2, bd2_some, if_neg (fun q => (c_isc _).mp q hi), hE]
            show _ = some (1, CM σ q (nI p') w (nI (l + ((C ++ C').length + Cs.length + 3))) (wrs f l ((C ++ C') ++ ([20063, nI (l + (C ++ C').length + Cs.length + 3)] ++ Cs ++ [20059]))))
            rw [List.length_append, List.append_assoc C C', wrs_app f l C]
            simp only [← Nat.add_assoc]
          · obtain ⟨v, hE, hv⟩ := hr σ hR
            obtain ⟨b, x, hE', hv'⟩ := hr' σ v hR h13
            refine ⟨b, x, by rw [hrr σ hR, hrb σ hR, hE, bd2_some, RM_f, if_pos rfl, r_lk hR g2, bd2_some, if_neg (fun q => (r_isc _).mp q hi)]; exact hE', fun hL => ⟨?_, (hv' hL).2⟩⟩
            show run _ (C ++ C') [] = _
            rw [run_app, (hv hL).1]
            exact (hv' hL).1
      · refine Or.inr ⟨skp t n p1, (none, C), by omega, hs2, by show C.length + 1 ≤ _; omega, fun σ q w l f hT hq h3 h300 => ?_, fun σ hR h13 => ?_⟩
        · rw [hcc σ q w l f hT hq, hcb σ q w l f hT hq, hc σ q w l f hT hq h3 (by omega), bd2_some, if_neg (by decide), c_sg hq hT g2, bd2_some, if_pos ((c_isc _).mpr hi), c_put hq h3 (by omega), bd2_some, ck_t (Or.inr rfl)]
          show _ = some (1, CM σ q (nI (skp t n p1)) w (nI (l + (C.length + 1))) (wrs f l (C ++ [20059])))
          rw [wrs_app, Nat.add_assoc]
          rfl
        · obtain ⟨v, hE, hv⟩ := hr σ hR
          refine ⟨1, v, by rw [hrr σ hR, hrb σ hR, hE, bd2_some, RM_f, if_pos rfl, r_lk hR g2, bd2_some, if_pos ((r_isc _).mpr hi), jR_s h13], fun hL => ⟨rfl, (hv hL).1 []⟩⟩
