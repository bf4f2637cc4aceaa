/-! ===== units ===== -/
theorem unit_cl {σ : Mm} {t : Nat → Int32} {n p q d dd : Nat} {w l : Int32} {f : Nat → Int32} (hq : zIsR q) (hT : CT σ t n) (hp : p ≤ n) (hd : d ≤ 6) : zfX5_unit (dd + 1) (nI d) 0 (CM σ q (nI p) w l f) =
    if sg t n (skp t n p) = 33 then (if d < 6 then bd2 (zfX5_unit dd (nI (d + 1)) 0 (CM σ q (nI (skp t n p + 1)) w l f)) (fun r79 σ79 => if r79 = 0 then some (0, σ79) else bd2 (zfX5_put 20033 σ79) (fun r89 σ89 => if r89 = 0 then some (0, σ89) else some (1, σ89))) else some (0, CM σ q (nI (skp t n p)) (nI (skp t n p)) l f))
    else if sg t n (skp t n p) = 40 then (if d < 6 then bd2 (zfX5_condition (zfX5_unit dd) (nI (d + 1)) 0 (CM σ q (nI (skp t n p + 1)) w l f)) (fun r53 σ53 => if r53 = 0 then some (0, σ53) else bd2 (zfX3_take_46 41 σ53) (fun r62 σ62 => if r62 = 0 then some (0, σ62) else some (1, σ62))) else some (0, CM σ q (nI (skp t n p)) (nI (skp t n p)) l f))
    else bd2 (zfX5_sum RD (nI d) (CM σ q (nI (skp t n p)) w l f)) (fun r107 σ107 => if r107 = 0 then some (0, σ107) else cmpC d σ107) := by
  have e6 : (nI d < 6) ↔ d < 6 := by rw [show (6 : Int32) = nI 6 from rfl, n_lt (by omega) (by decide)]
  have e1 : nI (skp t n p) + 1 = nI (skp t n p + 1) := n_add _ 1
  have e2 : nI d + 1 = nI (d + 1) := n_add _ 1
  conv => lhs; unfold zfX5_unit
  unfold cmpC
  generalize RD = N
  simp only [lt_p, if_true]
  rw [c_sg hq hT hp, bd2_some]
  generalize sg t n (skp t n p) = r
  simp only [e6, CM_p hq, CM_sp hq, e1, e2, c_wrong hq, bd2_some, ck_t (Or.inl rfl : zbo 0)]
  by_cases h1 : r = 33
  · subst h1
    simp only [if_true, show ¬ ((33 : Int32) = 40) by decide, if_false]
  · by_cases h2 : r = 40
    · subst h2
      simp only [if_true, show ¬ ((40 : Int32) = 33) by decide, if_false]
    · simp only [h1, h2, if_false]
theorem unit_rl {σ : Mm} {t : Nat → Int32} {n p d dd : Nat} (hR : RT σ t n) (hp : p ≤ n) (hd : d ≤ 6) : zfX12_unit (dd + 1) (RM σ (nI p) (-1) (nI d)) =
    if sg t n (skp t n p) = 33 then (if d = 6 then some (0, RM σ (nI (skp t n p)) (nI (skp t n p)) (nI d)) else bd2 (zfX12_unit dd (RM σ (nI (skp t n p + 1)) (-1) (nI (d + 1)))) (fun r21 σ21 => if r21 = 0 then some (1, zst σ21 703 12 ((σ21 703 12) - 1)) else some (0, zst σ21 703 12 ((σ21 703 12) - 1))))
    else if sg t n (skp t n p) = 40 then (if d = 6 then some (0, RM σ (nI (skp t n p)) (nI (skp t n p)) (nI d)) else bd2 (zfX12_condition (zfX12_unit dd) 0 0 (RM σ (nI (skp t n p + 1)) (-1) (nI (d + 1)))) (fun r63 σ63 => bd2 (zfX12_takes 41 σ63) (fun r70 σ70 => if r70 = 0 then some (0, σ70) else ck (zbo r63) (some (r63, zst σ70 703 12 ((σ70 703 12) - 1))))))
    else bd2 (zfX12_compares 0 0 (RM σ (nI (skp t n p)) (-1) (nI d))) (fun r93 σ93 => ck (zbo r93) (some (r93, σ93))) := by
  conv => lhs; unfold zfX12_unit
  rw [r_lk hR hp, bd2_some]
  simp only [lt_p, r_goes hd]
  by_cases h1 : sg t n (skp t n p) = 33
  · rw [if_pos h1, if_pos h1]
    by_cases h6 : d = 6
    · rw [if_pos h6, if_pos h6, bd2_some, if_pos rfl]
    · rw [if_neg h6, if_neg h6, bd2_some, if_neg (by decide)]
  · rw [if_neg h1, if_neg h1]
    by_cases h2 : sg t n (skp t n p) = 40
    · rw [if_pos h2, if_pos h2]
      by_cases h6 : d = 6
      · rw [if_pos h6, if_pos h6, bd2_some, if_pos rfl]
      · rw [if_neg h6, if_neg h6, bd2_some, if_neg (by decide)]
    · rw [if_neg h2, if_neg h2]
theorem zbo_if {c : Prop} [Decidable c] : zbo (if c then (1 : Int32) else 0) := by split <;> first | exact Or.inr rfl | exact Or.inl rfl
theorem unit_step {t : Nat → Int32} {n d dd : Nat} (ht : ∀ k, k < n → 0 ≤ (t k).toInt ∧ (t k).toInt < 256) (hn : n ≤ 160) (hd : d ≤ 6)
    (hrec : d < 6 → ∀ p', p' ≤ n → Rel3 t n p' (d + 1) 0 (fun _ _ => []) (fun _ _ => True) (zfX5_unit dd (nI (d + 1)) 0) (fun _ _ => zfX12_unit dd)) {p : Nat} (hp : p ≤ n) :
    Rel3 t n p d 0 (fun _ _ => []) (fun _ _ => True) (zfX5_unit (dd + 1) (nI d) 0) (fun _ _ => zfX12_unit (dd + 1)) := by
  have hp1 : p ≤ skp t n p := skp_ge
  have hp2 : skp t n p ≤ n := skp_le hp
  have hlt : sg t n (skp t n p) ≠ -1 → skp t n p < n := fun q => Classical.byContradiction fun q2 => q (if_neg q2)
  have sub1 : nI (d + 1) - 1 = nI d := by rw [show (1 : Int32) = nI 1 from rfl, n_sub (by omega)]; rfl
  by_cases h1 : sg t n (skp t n p) = 33
  · have hlt := hlt (by rw [h1]; decide)
    by_cases h6 : d = 6
    · refine Or.inl ⟨skp t n p, hp1, hp2, fun σ q w l f hT hq h3 h300 => ⟨nI (skp t n p), nI l, f, ?_⟩, fun σ s v hR _ => ⟨0, nI (skp t n p), nI d, Or.inl rfl, ?_⟩⟩
      · rw [unit_cl hq hT hp hd, if_pos h1, if_neg (by omega)]
      · refine (unit_rl hR hp hd).trans ?_
        rw [if_pos h1, if_pos h6]
    · rcases hrec (by omega) (skp t n p + 1) (by omega) with ⟨e, he0, he, hc, hr⟩ | ⟨p', C, g1, g2, g4, hc, hr⟩
      · refine Or.inl ⟨e, by omega, he, fun σ q w l f hT hq h3 h300 => ?_, fun σ s v hR _ => ?_⟩
        · obtain ⟨a, l', f', hE⟩ := hc σ q w l f hT hq h3 (by omega)
          refine ⟨a, l', f', ?_⟩
          rw [unit_cl hq hT hp hd, if_pos h1, if_pos (by omega), hE, bd2_some, if_pos rfl]
        · obtain ⟨v', a, d', hb, hE⟩ := hr σ s v hR trivial
          change zfX12_unit dd _ = _ at hE
          refine ⟨if v' = 0 then 1 else 0, a, d' - 1, zbo_if, ?_⟩
          refine (unit_rl hR hp hd).trans ?_
          rw [if_pos h1, if_neg h6, hE, bd2_some, RM_d, RM_sd]
          split <;> rfl
      · refine Or.inr ⟨p', C ++ [20033], by omega, g2, by simp only [List.length_append, List.length_cons, List.length_nil]; omega, fun σ q w l f hT hq h3 h300 => ?_, fun σ s v hR _ => ?_⟩
        · rw [unit_cl hq hT hp hd, if_pos h1, if_pos (by omega), hc σ q w l f hT hq h3 (by omega), bd2_some, if_neg (by decide), c_put hq h3 (by omega), bd2_some, if_neg (by decide), wrs_app]
          simp only [List.length_append, List.length_cons, List.length_nil, Nat.add_assoc, Nat.zero_add]
          rfl
        · obtain ⟨v', hb, hE, hv⟩ := hr σ s v hR trivial
          change zfX12_unit dd _ = _ at hE
          refine ⟨if v' = 0 then 1 else 0, zbo_if, ?_, fun hL st => ?_⟩
          · refine (unit_rl hR hp hd).trans ?_
            rw [if_pos h1, if_neg h6, hE, bd2_some, RM_d, RM_sd, sub1]
            split <;> rfl
          · have := (Runs.no (lam := lamR σ) (C := C) (a := v') (fun st => hv hL st)) st
            refine this.trans ?_
            rcases hb with rfl | rfl <;> rfl
  · by_cases h2 : sg t n (skp t n p) = 40
    · have hlt := hlt (by rw [h2]; decide)
      by_cases h6 : d = 6
      · refine Or.inl ⟨skp t n p, hp1, hp2, fun σ q w l f hT hq h3 h300 => ⟨nI (skp t n p), nI l, f, ?_⟩, fun σ s v hR _ => ⟨0, nI (skp t n p), nI d, Or.inl rfl, ?_⟩⟩
        · rw [unit_cl hq hT hp hd, if_neg h1, if_pos h2, if_neg (by omega)]
        · refine (unit_rl hR hp hd).trans ?_
          rw [if_neg h1, if_pos h2, if_pos h6]
      · rcases cond_rel hn (hrec (by omega)) (p := skp t n p + 1) (by omega) with ⟨e, he0, he, hc, hr⟩ | ⟨p', C, g1, g2, g4, hc, hr⟩
        · refine Or.inl ⟨e, by omega, he, fun σ q w l f hT hq h3 h300 => ?_, fun σ s v hR _ => ?_⟩
          · obtain ⟨a, l', f', hE⟩ := hc σ q w l f hT hq h3 (by omega)
            refine ⟨a, l', f', ?_⟩
            rw [unit_cl hq hT hp hd, if_neg h1, if_pos h2, if_pos (by omega), hE, bd2_some, if_pos rfl]
          · obtain ⟨v', a, d', hb, hE⟩ := hr σ s v hR trivial
            change zfX12_condition (zfX12_unit dd) 0 0 _ = _ at hE
            refine ⟨0, a, d', Or.inl rfl, ?_⟩
            refine (unit_rl hR hp hd).trans ?_
            rw [if_neg h1, if_pos h2, if_neg h6, hE, bd2_some, r_takes_f (n_ne1 (by omega)), bd2_some, if_pos rfl]
        · have hq1 : p' ≤ skp t n p' := skp_ge
          have hq2 : skp t n p' ≤ n := skp_le g2
          by_cases h4 : sg t n (skp t n p') = 41
          · have hlt2 : skp t n p' < n := Classical.byContradiction fun q2 => by
              have : sg t n (skp t n p') = -1 := if_neg q2
              rw [h4] at this; revert this; decide
            refine Or.inr ⟨skp t n p' + 1, C, by omega, by omega, by omega, fun σ q w l f hT hq h3 h300 => ?_, fun σ s v hR _ => ?_⟩
            · rw [unit_cl hq hT hp hd, if_neg h1, if_pos h2, if_pos (by omega), hc σ q w l f hT hq h3 (by omega), bd2_some, if_neg (by decide), c_take hq hT g2, if_pos h4, bd2_some, if_neg (by decide)]
            · obtain ⟨v', hb, hE, hv⟩ := hr σ s v hR trivial
              change zfX12_condition (zfX12_unit dd) 0 0 _ = _ at hE
              refine ⟨v', hb, ?_, fun hL st => hv hL st⟩
              refine (unit_rl hR hp hd).trans ?_
              rw [if_neg h1, if_pos h2, if_neg h6, hE, bd2_some, r_takes hR g2, if_pos h4, bd2_some, if_neg (by decide), ck_t hb, RM_d, RM_sd, sub1]
          · refine Or.inl ⟨skp t n p', by omega, hq2, fun σ q w l f hT hq h3 h300 => ⟨nI (skp t n p'), nI (l + C.length), wrs f l C, ?_⟩, fun σ s v hR _ => ?_⟩
            · rw [unit_cl hq hT hp hd, if_neg h1, if_pos h2, if_pos (by omega), hc σ q w l f hT hq h3 (by omega), bd2_some, if_neg (by decide), c_take hq hT g2, if_neg h4, bd2_some, if_pos rfl]
            · obtain ⟨v', hb, hE, hv⟩ := hr σ s v hR trivial
              change zfX12_condition (zfX12_unit dd) 0 0 _ = _ at hE
              refine ⟨0, nI (skp t n p'), nI (d + 1), Or.inl rfl, ?_⟩
              refine (unit_rl hR hp hd).trans ?_
              rw [if_neg h1, if_pos h2, if_neg h6, hE, bd2_some, r_takes hR g2, if_neg h4, bd2_some, if_pos rfl]
    · rcases cmp0_rel ht hn hd hp2 with ⟨e, he0, he, hc, hr⟩ | ⟨p', C, g1, g2, g4, hc, hr⟩
      · refine Or.inl ⟨e, by omega, he, fun σ q w l f hT hq h3 h300 => ?_, fun σ s v hR _ => ?_⟩
        · obtain ⟨a, l', f', hE⟩ := hc σ q w l f hT hq h3 (by omega)
          refine ⟨a, l', f', ?_⟩
          rw [unit_cl hq hT hp hd, if_neg h1, if_neg h2]
          exact hE
        · obtain ⟨v', a, d', hb, hE⟩ := hr σ s v hR trivial
          change zfX12_compares 0 0 _ = _ at hE
          refine ⟨v', a, d', hb, ?_⟩
          refine (unit_rl hR hp hd).trans ?_
          rw [if_neg h1, if_neg h2, hE, bd2_some, ck_t hb]
      · refine Or.inr ⟨p', C, by omega, g2, by omega, fun σ q w l f hT hq h3 h300 => ?_, fun σ s v hR _ => ?_⟩
        · rw [unit_cl hq hT hp hd, if_neg h1, if_neg h2]
          exact hc σ q w l f hT hq h3 (by omega)
        · obtain ⟨v', hb, hE, hv⟩ := hr σ s v hR trivial
          change zfX12_compares 0 0 _ = _ at hE
          refine ⟨v', hb, ?_, hv⟩
          refine (unit_rl hR hp hd).trans ?_
          rw [if_neg h1, if_neg h2, hE, bd2_some, ck_t hb]
theorem unit_rel {t : Nat → Int32} {n : Nat} (ht : ∀ k, k < n → 0 ≤ (t k).toInt ∧ (t k).toInt < 256) (hn : n ≤ 160) : ∀ k dd d, d + k = 6 → k < dd → ∀ p, p ≤ n →
    Rel3 t n p d 0 (fun _ _ => []) (fun _ _ => True) (zfX5_unit dd (nI d) 0) (fun _ _ => zfX12_unit dd) := by
  intro k
  induction k with
  | zero =>
    intro dd d hd hk p hp
    obtain ⟨dd, rfl⟩ : ∃ g, dd = g + 1 := ⟨dd - 1, by omega⟩
    exact unit_step ht hn (by omega) (fun h => by omega) hp
  | succ k ih =>
    intro dd d hd hk p hp
    obtain ⟨dd, rfl⟩ : ∃ g, dd = g + 1 := ⟨dd - 1, by omega⟩
    exact unit_step ht hn (by omega) (fun h p' hp' => ih dd (d + 1) (by omega) (by omega) p' hp') hp
