/-! ===== conditions as wholes ===== -/
/-- what a unit is to be at a place: as Rel3, but with what is pending behind it named apart -/
def RelU (t : Nat → Int32) (n p d : Nat) (x3 x4 : Int32) (preA : Int32 → Int32 → List Int32) (G : Int32 → Int32 → Prop) (Fc : Mm → Option (Int32 × Mm)) (Fr : Int32 → Int32 → Mm → Option (Int32 × Mm)) : Prop :=
  (∃ e, p ≤ e ∧ e ≤ n ∧ (∀ σ q w l f, CT σ t n → zIsR q → σ 46 3 = nI q → l + (n - p) ≤ 300 → ∃ a l' f', Fc (CM σ q (nI p) w (nI l) f) = some (0, CM σ q a (nI e) l' f')) ∧ (∀ σ s v, RT σ t n → G s v → ∃ v' a d', zbo v' ∧ Fr s v (RM σ (nI p) (-1) (nI d)) = some (v', RM σ a (nI e) d'))) ∨
  (∃ p' C, p < p' ∧ p' ≤ n ∧ C.length ≤ p' - p ∧ (∀ σ q w l f, CT σ t n → zIsR q → σ 46 3 = nI q → l + (n - p) ≤ 300 → Fc (CM σ q (nI p) w (nI l) f) = some (1, CM σ q (nI p') w (nI (l + C.length)) (wrs f l C))) ∧
    (∀ σ s v, RT σ t n → G s v → ∃ r, zbo r ∧ Fr s v (RM σ (nI p) (-1) (nI d)) = some (r, RM σ (nI p') (-1) (nI d)) ∧ (LO σ → (∀ st, run (lamR σ) C (preA s v ++ st) = r :: (pre3 x3 x4 s v ++ st)))))
theorem cond_step {t : Nat → Int32} {n p d : Nat} (hn : n ≤ 160) (hp : p ≤ n) {zc : Int32 → Int32 → Mm → Option (Int32 × Mm)} {zr : Mm → Option (Int32 × Mm)} {x2 x3 x4 : Int32} {i fuc fu1 fu2 : Nat} {preA : Int32 → Int32 → List Int32} {G : Int32 → Int32 → Prop} {Fr : Int32 → Int32 → Mm → Option (Int32 × Mm)}
    (hi : i ≤ p) (hx4 : zbo x4) (hG : ∀ s v, G s v → Gz x3 x4 s v) (hf1 : n - p ≤ fu1) (hf2 : n - p ≤ fu2)
    (U : RelU t n p d x3 x4 preA G (zc (nI d) (bg x2 i)) Fr)
    (IH : ∀ p', p < p' → p' ≤ n → ∀ y3 y4 f1 f2, zbo y3 → zbo y4 → n - p' < f1 → n - p' < f2 → Rel3 t n p' d ((opa y3).length + (opo y4).length) (pre3 y3 y4) (Gz y3 y4) (loopC zc d x2 fuc y3 y4 (i + 1)) (fun s v S => RBc zr y3 y4 f1 f2 s v S)) :
    Rel3 t n p d ((opa x3).length + (opo x4).length) preA G (loopC zc d x2 (fuc + 1) x3 x4 i) (fun s v S => bd2 (Fr s v S) (fun r σ' => zfX12_part_L18 zr (KO zr x4 (fu2 + 1) s) (fu1 + 1) (cand x3 v r) σ')) := by
  have ho3 : (opa x3).length ≤ 1 := opa_len
  have ho4 : (opo x4).length ≤ 1 := opo_len
  rcases U with ⟨e, he0, he, hc, hr⟩ | ⟨p1, C1, h1, h2, h4, hc, hr⟩
  · refine Or.inl ⟨e, he0, he, ?_, ?_⟩
    · intro σ q w l f hT hq h3 h300
      by_cases hi160 : i < 160
      · obtain ⟨a, l', f', hE⟩ := hc σ q w l f hT hq h3 (by omega)
        exact ⟨a, l', f', c_cond_f hi160 hE⟩
      · have hen : e = p := by omega
        refine ⟨nI p, nI l, f, ?_⟩
        unfold loopC zfX5_condition_L8
        rw [if_pos (by rw [show (160 : Int32) = nI 160 from rfl, n_le (by decide) (by omega)]; omega), c_wrong hq, bd2_some, ck_t (Or.inl rfl), hen]
    · intro σ s v hR hg
      obtain ⟨v', a, d', hb, hE⟩ := hr σ s v hR hg
      refine ⟨cor x4 s (cand x3 v v'), a, d', cor_zbo (cand_zbo hb), ?_⟩
      show bd2 (Fr s v _) _ = _
      rw [hE, bd2_some, r_part_f (n_ne1 (by omega))]
      unfold KO
      rw [ck_t (cand_zbo hb), r_cond_f (n_ne1 (by omega)), ck_t (cor_zbo (cand_zbo hb))]
  · have hp2 : p1 ≤ skp t n p1 := skp_ge
    have hp3 : skp t n p1 ≤ n := skp_le h2
    have hlt : sg t n (skp t n p1) ≠ -1 → skp t n p1 < n := fun q => Classical.byContradiction fun q2 => q (if_neg q2)
    by_cases hi160 : i < 160
    case neg => exact absurd h1 (by omega)
    have hcs := fun σ q w l f hT hq h3 h300 => c_cond_s (fu := fuc) (x3 := x3) (x4 := x4) hq h3 hT hi160 h2 (l1 := l + C1.length) (by omega) (hc σ q w l f hT hq h3 h300)
    by_cases o1 : sg t n (skp t n p1) = 38
    · have hlt := hlt (by rw [o1]; decide)
      have hol := opa_1
      have hrr : ∀ σ s v r, RT σ t n → Fr s v (RM σ (nI p) (-1) (nI d)) = some (r, RM σ (nI p1) (-1) (nI d)) → bd2 (Fr s v (RM σ (nI p) (-1) (nI d))) (fun r σ' => zfX12_part_L18 zr (KO zr x4 (fu2 + 1) s) (fu1 + 1) (cand x3 v r) σ') = RBc zr 1 x4 fu1 (fu2 + 1) s (cand x3 v r) (RM σ (nI (skp t n p1 + 1)) (-1) (nI d)) := by
        intro σ s v r hR hE
        rw [hE, bd2_some, r_part_s hR h2, if_pos o1]
        rfl
      rcases IH (skp t n p1 + 1) (by omega) (by omega) 1 x4 fu1 (fu2 + 1) (Or.inr rfl) hx4 (by omega) (by omega) with ⟨e, he0, he, hc', hr'⟩ | ⟨p', C', g1, g2, g4, hc', hr'⟩
      · refine Or.inl ⟨e, by omega, he, ?_, ?_⟩
        · intro σ q w l f hT hq h3 h300
          rw [hcs σ q w l f hT hq h3 (by omega), if_pos o1]
          exact hc' σ q w _ _ hT hq h3 (by omega)
        · intro σ s v hR hg
          obtain ⟨r, hb, hE, -⟩ := hr σ s v hR hg
          obtain ⟨v', a, d', hb', hE'⟩ := hr' σ s (cand x3 v r) hR ⟨fun _ => cand_zbo hb, (hG s v hg).2⟩
          exact ⟨v', a, d', hb', (hrr σ s v r hR hE).trans hE'⟩
      · refine Or.inr ⟨p', C1 ++ opa x3 ++ C', by omega, g2, by simp only [List.length_append]; omega, ?_, ?_⟩
        · intro σ q w l f hT hq h3 h300
          rw [hcs σ q w l f hT hq h3 (by omega), if_pos o1]
          refine (hc' σ q w _ _ hT hq h3 (by omega)).trans ?_
          rw [wrs_app3]
          simp only [List.length_append, Nat.add_assoc]
        · intro σ s v hR hg
          obtain ⟨r, hb, hE, hv⟩ := hr σ s v hR hg
          obtain ⟨v', hb', hE', hv'⟩ := hr' σ s (cand x3 v r) hR ⟨fun _ => cand_zbo hb, (hG s v hg).2⟩
          refine ⟨v', hb', (hrr σ s v r hR hE).trans hE', fun hL st => ?_⟩
          rw [run_app, run_app, hv hL]
          unfold pre3
          rw [List.append_assoc, run_a (hG s v hg).1 hb]
          have := hv' hL st
          unfold pre3 at this
          rw [if_neg (show ¬ (1 : Int32) = 0 by decide)] at this
          exact this
    · have hKO : ∀ σ s v r, RT σ t n → zbo r → Fr s v (RM σ (nI p) (-1) (nI d)) = some (r, RM σ (nI p1) (-1) (nI d)) → bd2 (Fr s v (RM σ (nI p) (-1) (nI d))) (fun r σ' => zfX12_part_L18 zr (KO zr x4 (fu2 + 1) s) (fu1 + 1) (cand x3 v r) σ') = zfX12_condition_L7 zr (fun a b => ck (zbo a) (some (a, b))) (fu2 + 1) (cor x4 s (cand x3 v r)) (RM σ (nI (skp t n p1)) (-1) (nI d)) := by
        intro σ s v r hR hb hE
        rw [hE, bd2_some, r_part_s hR h2, if_neg o1]
        unfold KO
        rw [ck_t (cand_zbo hb)]
      by_cases o2 : sg t n (skp t n p1) = 124
      · have hlt := hlt (by rw [o2]; decide)
        have hol := opo_1
        have hom := opa_0
        have hrr : ∀ σ s v r, RT σ t n → zbo r → Fr s v (RM σ (nI p) (-1) (nI d)) = some (r, RM σ (nI p1) (-1) (nI d)) → bd2 (Fr s v (RM σ (nI p) (-1) (nI d))) (fun r σ' => zfX12_part_L18 zr (KO zr x4 (fu2 + 1) s) (fu1 + 1) (cand x3 v r) σ') = RBc zr 0 1 NF fu2 (cor x4 s (cand x3 v r)) 0 (RM σ (nI (skp t n p1 + 1)) (-1) (nI d)) := by
          intro σ s v r hR hb hE
          rw [hKO σ s v r hR hb hE, r_cond_s hR hp3, skp_skp, if_pos o2, part_0]
          rfl
        rcases IH (skp t n p1 + 1) (by omega) (by omega) 0 1 NF fu2 (Or.inl rfl) (Or.inr rfl) (by unfold NF; omega) (by omega) with ⟨e, he0, he, hc', hr'⟩ | ⟨p', C', g1, g2, g4, hc', hr'⟩
        · refine Or.inl ⟨e, by omega, he, ?_, ?_⟩
          · intro σ q w l f hT hq h3 h300
            rw [hcs σ q w l f hT hq h3 (by omega), if_neg o1, if_pos o2]
            exact hc' σ q w _ _ hT hq h3 (by simp only [List.length_append]; omega)
          · intro σ s v hR hg
            obtain ⟨r, hb, hE, -⟩ := hr σ s v hR hg
            obtain ⟨v', a, d', hb', hE'⟩ := hr' σ (cor x4 s (cand x3 v r)) 0 hR ⟨fun _ => Or.inl rfl, fun _ => cor_zbo (cand_zbo hb)⟩
            exact ⟨v', a, d', hb', (hrr σ s v r hR hb hE).trans hE'⟩
        · refine Or.inr ⟨p', C1 ++ (opa x3 ++ opo x4) ++ C', by omega, g2, by simp only [List.length_append]; omega, ?_, ?_⟩
          · intro σ q w l f hT hq h3 h300
            rw [hcs σ q w l f hT hq h3 (by omega), if_neg o1, if_pos o2]
            refine (hc' σ q w _ _ hT hq h3 (by simp only [List.length_append]; omega)).trans ?_
            rw [wrs_app3]
            simp only [List.length_append, Nat.add_assoc]
          · intro σ s v hR hg
            obtain ⟨r, hb, hE, hv⟩ := hr σ s v hR hg
            obtain ⟨v', hb', hE', hv'⟩ := hr' σ (cor x4 s (cand x3 v r)) 0 hR ⟨fun _ => Or.inl rfl, fun _ => cor_zbo (cand_zbo hb)⟩
            refine ⟨v', hb', (hrr σ s v r hR hb hE).trans hE', fun hL st => ?_⟩
            rw [run_app, run_app, run_app, hv hL]
            unfold pre3
            rw [List.append_assoc, run_a (hG s v hg).1 hb, run_o (hG s v hg).2 (cand_zbo hb)]
            have := hv' hL st
            unfold pre3 at this
            rw [if_pos rfl, if_neg (show ¬ (1 : Int32) = 0 by decide)] at this
            exact this
      · refine Or.inr ⟨skp t n p1, C1 ++ (opa x3 ++ opo x4), by omega, hp3, by simp only [List.length_append]; omega, ?_, ?_⟩
        · intro σ q w l f hT hq h3 h300
          rw [hcs σ q w l f hT hq h3 (by omega), if_neg o1, if_neg o2, wrs_app f l C1 (opa x3 ++ opo x4)]
          simp only [List.length_append, Nat.add_assoc]
        · intro σ s v hR hg
          obtain ⟨r, hb, hE, hv⟩ := hr σ s v hR hg
          refine ⟨cor x4 s (cand x3 v r), cor_zbo (cand_zbo hb), ?_, fun hL st => ?_⟩
          · refine (hKO σ s v r hR hb hE).trans ?_
            rw [r_cond_s hR hp3, skp_skp, if_neg o2, ck_t (cor_zbo (cand_zbo hb))]
          · rw [run_app, run_app, hv hL]
            unfold pre3
            rw [List.append_assoc, run_a (hG s v hg).1 hb, run_o (hG s v hg).2 (cand_zbo hb)]
theorem bg_s {x2 : Int32} {i : Nat} : bg x2 (i + 1) = 0 := by
  unfold bg; rw [if_neg (by omega : ¬ i + 1 = 0)]; split <;> rfl
theorem cond_loop {t : Nat → Int32} {n d : Nat} (hn : n ≤ 160) {zc : Int32 → Int32 → Mm → Option (Int32 × Mm)} {zr : Mm → Option (Int32 × Mm)} {x2 : Int32}
    (hU : ∀ p, p ≤ n → Rel3 t n p d 0 (fun _ _ => []) (fun _ _ => True) (zc (nI d) 0) (fun _ _ => zr)) : ∀ m p, n - p = m → p ≤ n → ∀ (x3 x4 : Int32) (i fuc fu1 fu2 : Nat), zbo x3 → zbo x4 → i ≤ p → bg x2 i = 0 → n - p < fuc → n - p < fu1 → n - p < fu2 →
    Rel3 t n p d ((opa x3).length + (opo x4).length) (pre3 x3 x4) (Gz x3 x4) (loopC zc d x2 fuc x3 x4 i) (fun s v S => RBc zr x3 x4 fu1 fu2 s v S) := by
  intro m
  induction m using Nat.strongRecOn with
  | _ m ih =>
  intro p hm hp x3 x4 i fuc fu1 fu2 hx3 hx4 hi hb hfc hf1 hf2
  obtain ⟨fuc, rfl⟩ : ∃ g, fuc = g + 1 := ⟨fuc - 1, by omega⟩
  obtain ⟨fu1, rfl⟩ : ∃ g, fu1 = g + 1 := ⟨fu1 - 1, by omega⟩
  obtain ⟨fu2, rfl⟩ : ∃ g, fu2 = g + 1 := ⟨fu2 - 1, by omega⟩
  refine cond_step hn hp (Fr := fun _ _ => zr) hi hx4 (fun _ _ h => h) (by omega) (by omega) ?_ ?_
  · rw [hb]
    rcases hU p hp with ⟨e, he0, he, hc, hr⟩ | ⟨p1, C1, h1, h2, h4, hc, hr⟩
    · exact Or.inl ⟨e, he0, he, fun σ q w l f hT hq h3 h300 => hc σ q w l f hT hq h3 (by omega), fun σ s v hR _ => hr σ s v hR trivial⟩
    · refine Or.inr ⟨p1, C1, h1, h2, by omega, fun σ q w l f hT hq h3 h300 => hc σ q w l f hT hq h3 (by omega), fun σ s v hR _ => ?_⟩
      obtain ⟨r, hb, hE, hv⟩ := hr σ s v hR trivial
      exact ⟨r, hb, hE, fun hL st => hv hL _⟩
  · intro p' hlt hle y3 y4 f1 f2 a b c e
    exact ih (n - p') (by omega) p' rfl hle y3 y4 (i + 1) fuc f1 f2 a b (by omega) bg_s (by omega) c e
theorem cond_c {zc : Int32 → Int32 → Mm → Option (Int32 × Mm)} {d : Nat} {x2 : Int32} {S : Mm} : zfX5_condition zc (nI d) x2 S = loopC zc d x2 NF 0 0 0 S := by
  unfold zfX5_condition loopC
  generalize NF = N
  simp only [lt_p, n_0]
theorem cor_0 {s x : Int32} : cor 0 s x = x := if_pos rfl
theorem cand_0 {v x : Int32} : cand 0 v x = x := if_pos rfl
theorem cond_r0 {zr : Mm → Option (Int32 × Mm)} {S : Mm} : zfX12_condition zr 0 0 S = RBc zr 0 0 NF NF 0 0 S := by
  unfold zfX12_condition
  rw [part_0]
  unfold RBc KO
  generalize NF = N
  simp only [lt_p, cor_0, cand_0]
theorem cond_r1 {zr : Mm → Option (Int32 × Mm)} {s v : Int32} {S : Mm} : zfX12_condition zr 1 s S = bd2 (zfX12_compares 1 s S) (fun r σ' => zfX12_part_L18 zr (KO zr 0 NF s) NF (cand 0 v r) σ') := by
  unfold zfX12_condition
  rw [part_1]
  unfold KO
  generalize NF = N
  simp only [lt_p, cor_0, cand_0]
theorem cond_rel {t : Nat → Int32} {n d : Nat} (hn : n ≤ 160) {zc : Int32 → Int32 → Mm → Option (Int32 × Mm)} {zr : Mm → Option (Int32 × Mm)}
    (hU : ∀ p, p ≤ n → Rel3 t n p d 0 (fun _ _ => []) (fun _ _ => True) (zc (nI d) 0) (fun _ _ => zr)) {p : Nat} (hp : p ≤ n) :
    Rel3 t n p d 0 (fun _ _ => []) (fun _ _ => True) (zfX5_condition zc (nI d) 0) (fun _ _ => zfX12_condition zr 0 0) := by
  have L := cond_loop (x2 := 0) hn hU (n - p) p rfl hp 0 0 0 NF NF NF (Or.inl rfl) (Or.inl rfl) (by omega) (if_pos rfl) (by unfold NF; omega) (by unfold NF; omega) (by unfold NF; omega)
  rw [opa_0, opo_0] at L
  have G0 : Gz 0 0 0 0 := ⟨fun h => absurd rfl h, fun h => absurd rfl h⟩
  rcases L with ⟨e, he0, he, hc, hr⟩ | ⟨p1, C1, h1, h2, h4, hc, hr⟩
  · refine Or.inl ⟨e, he0, he, fun σ q w l f hT hq h3 h300 => ?_, fun σ s v hR _ => ?_⟩
    · rw [cond_c]; exact hc σ q w l f hT hq h3 (by omega)
    · obtain ⟨v', a, d', hb, hE⟩ := hr σ 0 0 hR G0
      exact ⟨v', a, d', hb, cond_r0.trans hE⟩
  · refine Or.inr ⟨p1, C1, h1, h2, by omega, fun σ q w l f hT hq h3 h300 => ?_, fun σ s v hR _ => ?_⟩
    · rw [cond_c]; exact hc σ q w l f hT hq h3 (by omega)
    · obtain ⟨v', hb, hE, hv⟩ := hr σ 0 0 hR G0
      exact ⟨v', hb, cond_r0.trans hE, hv⟩
theorem unit_c {dd d : Nat} {x2 : Int32} {S : Mm} (h2 : x2 ≠ 0) : zfX5_unit (dd + 1) (nI d) x2 S = bd2 (zfX3_sign_46 S) (fun _ σ1 => cmpC d σ1) := by
  unfold zfX5_unit cmpC
  generalize RD = N
  simp only [lt_p, h2, if_false]
theorem condB_rel {t : Nat → Int32} {n d : Nat} (ht : ∀ k, k < n → 0 ≤ (t k).toInt ∧ (t k).toInt < 256) (hn : n ≤ 160) (hd : d ≤ 6) {dd : Nat} {zr : Mm → Option (Int32 × Mm)}
    (hU : ∀ p, p ≤ n → Rel3 t n p d 0 (fun _ _ => []) (fun _ _ => True) (zfX5_unit (dd + 1) (nI d) 0) (fun _ _ => zr)) {p : Nat} (hp : p ≤ n) (hs : skp t n p = p) :
    Rel3 t n p d 0 (fun s _ => [s]) (fun _ _ => True) (zfX5_condition (zfX5_unit (dd + 1)) (nI d) 1) (fun s _ => zfX12_condition zr 1 s) := by
  obtain ⟨N, hN⟩ : ∃ m, NF = m + 1 := ⟨19999, rfl⟩
  have hNg : 200 < N := by have : NF = 20000 := rfl; omega
  have L := cond_step (t := t) (d := d) (x2 := 1) (x3 := 0) (x4 := 0) (i := 0) (fuc := N) (fu1 := N) (fu2 := N) (zc := zfX5_unit (dd + 1)) (zr := zr) (preA := fun s _ => [s]) (G := fun _ _ => True) (Fr := fun s _ => zfX12_compares 1 s) hn hp (by omega) (Or.inl rfl) (fun _ _ _ => ⟨fun h => absurd rfl h, fun h => absurd rfl h⟩) (by omega) (by omega) ?_ ?_
  · rw [opa_0, opo_0, ← hN] at L
    rcases L with ⟨e, he0, he, hc, hr⟩ | ⟨p1, C1, h1, h2, h4, hc, hr⟩
    · refine Or.inl ⟨e, he0, he, fun σ q w l f hT hq h3 h300 => ?_, fun σ s v hR _ => ?_⟩
      · rw [cond_c]; exact hc σ q w l f hT hq h3 (by omega)
      · obtain ⟨v', a, d', hb, hE⟩ := hr σ s v hR trivial
        exact ⟨v', a, d', hb, (cond_r1 (v := v)).trans hE⟩
    · refine Or.inr ⟨p1, C1, h1, h2, by omega, fun σ q w l f hT hq h3 h300 => ?_, fun σ s v hR _ => ?_⟩
      · rw [cond_c]; exact hc σ q w l f hT hq h3 (by omega)
      · obtain ⟨v', hb, hE, hv⟩ := hr σ s v hR trivial
        exact ⟨v', hb, (cond_r1 (v := v)).trans hE, hv⟩
  · have hb : bg 1 0 = 1 := by unfold bg; rw [if_neg (by decide), if_pos rfl]
    rw [hb]
    have hcc : ∀ σ q w l f, CT σ t n → zIsR q → zfX5_unit (dd + 1) (nI d) 1 (CM σ q (nI p) w (nI l) f) = cmpC d (CM σ q (nI p) w (nI l) f) := by
      intro σ q w l f hT hq
      rw [unit_c (by decide), c_sg hq hT hp, bd2_some, hs]
    rcases cmp_rel ht hn hd hp with ⟨e, he0, he, hc, hr⟩ | ⟨p1, C1, h1, h2, h4, hc, hr⟩
    · refine Or.inl ⟨e, he0, he, fun σ q w l f hT hq h3 h300 => ?_, fun σ s v hR _ => hr σ s v hR trivial⟩
      rw [hcc σ q w l f hT hq]
      exact hc σ q w l f hT hq h3 (by omega)
    · refine Or.inr ⟨p1, C1, h1, h2, by omega, fun σ q w l f hT hq h3 h300 => ?_, fun σ s v hR _ => ?_⟩
      · rw [hcc σ q w l f hT hq]
        exact hc σ q w l f hT hq h3 (by omega)
      · obtain ⟨r, hb, hE, hv⟩ := hr σ s v hR trivial
        exact ⟨r, hb, hE, fun hL st => hv hL st⟩
  · intro p' hlt hle y3 y4 f1 f2 a b c e
    exact cond_loop hn hU (n - p') p' rfl hle y3 y4 1 N f1 f2 a b (by omega) bg_s (by omega) c e
