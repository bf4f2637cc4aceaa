/-! ===== units and conditions: & and | pending ===== -/
def opa (x : Int32) : List Int32 := if x = 0 then [] else [20038]
def opo (x : Int32) : List Int32 := if x = 0 then [] else [20124]
def cand (x v r : Int32) : Int32 := if x = 0 then r else if v = 0 then 0 else if r = 0 then 0 else 1
def cor (x s r : Int32) : Int32 := if x = 0 then r else if s = 0 then (if r = 0 then 0 else 1) else 1
def Gz (x3 x4 s v : Int32) : Prop := (x3 ≠ 0 → zbo v) ∧ (x4 ≠ 0 → zbo s)
def pre3 (x3 x4 s v : Int32) : List Int32 := (if x3 = 0 then [] else [v]) ++ (if x4 = 0 then [] else [s])
theorem cand_zbo {x v r : Int32} (hr : zbo r) : zbo (cand x v r) := by
  unfold cand; repeat' split
  all_goals first | exact hr | exact Or.inl rfl | exact Or.inr rfl
theorem cor_zbo {x s r : Int32} (hr : zbo r) : zbo (cor x s r) := by
  unfold cor; repeat' split
  all_goals first | exact hr | exact Or.inl rfl | exact Or.inr rfl
theorem run_a {lam : Nat → Int32} {x v r : Int32} {st : List Int32} (hv : x ≠ 0 → zbo v) (hr : zbo r) : run lam (opa x) (r :: ((if x = 0 then [] else [v]) ++ st)) = cand x v r :: st := by
  unfold opa cand
  by_cases h : x = 0
  · rw [if_pos h, if_pos h, if_pos h]; rfl
  · rw [if_neg h, if_neg h, if_neg h]
    show stp lam 20038 (r :: v :: st) = _
    unfold stp
    rw [if_neg (by decide), if_neg (by decide)]
    simp only
    rw [if_neg (by decide), show (20038 : Int32) - 20000 = 38 by decide, jn_and (hv h) hr]
    rcases hr with rfl | rfl
    · rw [if_pos rfl]
    · rw [if_neg (show ¬ (1 : Int32) = 0 by decide)]
theorem run_o {lam : Nat → Int32} {x s r : Int32} {st : List Int32} (hs : x ≠ 0 → zbo s) (hr : zbo r) : run lam (opo x) (r :: ((if x = 0 then [] else [s]) ++ st)) = cor x s r :: st := by
  unfold opo cor
  by_cases h : x = 0
  · rw [if_pos h, if_pos h, if_pos h]; rfl
  · rw [if_neg h, if_neg h, if_neg h]
    show stp lam 20124 (r :: s :: st) = _
    unfold stp
    rw [if_neg (by decide), if_neg (by decide)]
    simp only
    rw [if_neg (by decide), show (20124 : Int32) - 20000 = 124 by decide, jn_or (hs h) hr]
    rcases hr with rfl | rfl
    · rw [if_pos rfl]
    · rw [if_neg (show ¬ (1 : Int32) = 0 by decide)]
theorem opa_len {x : Int32} : (opa x).length ≤ 1 := by unfold opa; split <;> simp
theorem opo_len {x : Int32} : (opo x).length ≤ 1 := by unfold opo; split <;> simp
theorem opa_0 : (opa 0).length = 0 := rfl
theorem opo_0 : (opo 0).length = 0 := rfl
theorem opa_1 : (opa 1).length = 1 := by unfold opa; rw [if_neg (by decide)]; rfl
theorem opo_1 : (opo 1).length = 1 := by unfold opo; rw [if_neg (by decide)]; rfl
/-- what the reference goes on with behind a part -/
def KO (zr : Mm → Option (Int32 × Mm)) (x4 : Int32) (fu2 : Nat) (s : Int32) (x : Int32) (σ : Mm) : Option (Int32 × Mm) := ck (zbo x) (zfX12_condition_L7 zr (fun a b => ck (zbo a) (some (a, b))) fu2 (cor x4 s x) σ)
def RBc (zr : Mm → Option (Int32 × Mm)) (x3 x4 : Int32) (fu1 fu2 : Nat) (s v : Int32) (σ : Mm) : Option (Int32 × Mm) := bd2 (zr σ) (fun r σ' => zfX12_part_L18 zr (KO zr x4 fu2 s) fu1 (cand x3 v r) σ')
/-- the class's loop over units -/
def loopC (zc : Int32 → Int32 → Mm → Option (Int32 × Mm)) (d : Nat) (x2 : Int32) (fu : Nat) (x3 x4 : Int32) (i : Nat) (S : Mm) : Option (Int32 × Mm) := zfX5_condition_L8 (fun σ116 => bd2 (zfX3_wrong_46 σ116) (fun r117 σ117 => ck (zbo r117) (some (r117, σ117)))) zc (nI d) (fun σ38 => some (0, σ38)) (fun σ95 => some (1, σ95)) x2 fu x3 x4 (nI i) S
/-- whether the first sum of this turn was read already -/
def bg (x2 : Int32) (i : Nat) : Int32 := if x2 = 0 then 0 else if i = 0 then 1 else 0
section
variable {σ : Mm} {t : Nat → Int32} {n p : Nat} {f d v : Int32} {zr : Mm → Option (Int32 × Mm)} {k : Int32 → Mm → Option (Int32 × Mm)} {fu : Nat}
theorem r_part_f {a : Int32} (hf : f ≠ -1) : zfX12_part_L18 zr k (fu + 1) v (RM σ a f d) = k v (RM σ a f d) := by
  unfold zfX12_part_L18
  rw [RM_f, if_neg hf]
theorem r_cond_f {a : Int32} (hf : f ≠ -1) : zfX12_condition_L7 zr k (fu + 1) v (RM σ a f d) = k v (RM σ a f d) := by
  unfold zfX12_condition_L7
  rw [RM_f, if_neg hf]
theorem r_part_s (h : RT σ t n) (hp : p ≤ n) : zfX12_part_L18 zr k (fu + 1) v (RM σ (nI p) (-1) d) =
    if sg t n (skp t n p) = 38 then bd2 (zr (RM σ (nI (skp t n p + 1)) (-1) d)) (fun r σ' => zfX12_part_L18 zr k fu (cand 1 v r) σ') else k v (RM σ (nI (skp t n p)) (-1) d) := by
  conv => lhs; unfold zfX12_part_L18
  rw [RM_f, if_pos rfl, r_lk h hp, bd2_some]
  by_cases o : sg t n (skp t n p) = 38
  · rw [if_pos o, if_pos o]
    simp only [lt_p]
    rw [RM_at, RM_sa, show nI (skp t n p) + 1 = nI (skp t n p + 1) from n_add _ 1]
    congr 1
    funext r σ'
    unfold cand
    rw [if_neg (show ¬ (1 : Int32) = 0 by decide)]
    by_cases h1 : v = 0
    · rw [if_pos h1, if_pos h1]
    · rw [if_neg h1, if_neg h1]
      by_cases h2 : r = 0
      · rw [if_pos h2, if_pos h2]
      · rw [if_neg h2, if_neg h2]
  · rw [if_neg o, if_neg o]
theorem r_cond_s (h : RT σ t n) (hp : p ≤ n) : zfX12_condition_L7 zr k (fu + 1) v (RM σ (nI p) (-1) d) =
    if sg t n (skp t n p) = 124 then bd2 (zfX12_part zr 0 0 (RM σ (nI (skp t n p + 1)) (-1) d)) (fun r σ' => zfX12_condition_L7 zr k fu (cor 1 v r) σ') else k v (RM σ (nI (skp t n p)) (-1) d) := by
  conv => lhs; unfold zfX12_condition_L7
  rw [RM_f, if_pos rfl, r_lk h hp, bd2_some]
  by_cases o : sg t n (skp t n p) = 124
  · rw [if_pos o, if_pos o]
    simp only [lt_p]
    rw [RM_at, RM_sa, show nI (skp t n p) + 1 = nI (skp t n p + 1) from n_add _ 1]
    congr 1
    funext r σ'
    unfold cor
    rw [if_neg (show ¬ (1 : Int32) = 0 by decide)]
    by_cases h1 : v = 0
    · rw [if_pos h1, if_pos h1]
      by_cases h2 : r = 0
      · rw [if_pos h2, if_pos h2]
      · rw [if_neg h2, if_neg h2]
    · rw [if_neg h1, if_neg h1]
  · rw [if_neg o, if_neg o]
theorem part_k {K : Int32 → Mm → Option (Int32 × Mm)} : ∀ fu v σ, bd2 (zfX12_part_L18 zr k fu v σ) K = zfX12_part_L18 zr (fun x σ => bd2 (k x σ) K) fu v σ := by
  intro fu
  induction fu with
  | zero => intro v σ; rfl
  | succ fu ih =>
    intro v σ
    unfold zfX12_part_L18
    simp only [lt_p, bd2_if, bd2_bd2, bd2_some, bd2_ck, ih]
theorem part_0 {S : Mm} {K : Int32 → Mm → Option (Int32 × Mm)} : bd2 (zfX12_part zr 0 0 S) K = bd2 (zr S) (fun r σ' => zfX12_part_L18 zr (fun x σ => ck (zbo x) (K x σ)) NF r σ') := by
  unfold zfX12_part
  generalize NF = N
  simp only [lt_p, if_true, bd2_bd2, part_k, bd2_ck, bd2_some]
theorem part_1 {S : Mm} {s : Int32} {K : Int32 → Mm → Option (Int32 × Mm)} : bd2 (zfX12_part zr 1 s S) K = bd2 (zfX12_compares 1 s S) (fun r σ' => zfX12_part_L18 zr (fun x σ => ck (zbo x) (K x σ)) NF r σ') := by
  unfold zfX12_part
  generalize NF = N
  simp only [lt_p, show ¬ (1 : Int32) = 0 by decide, if_false, bd2_bd2, part_k, bd2_ck, bd2_some]
end
section
variable {σ : Mm} {t : Nat → Int32} {n p1 q l1 fu i d : Nat} {w x2 x3 x4 : Int32} {f1 : Nat → Int32} {S S' : Mm} {zc : Int32 → Int32 → Mm → Option (Int32 × Mm)}
theorem bg_if {β : Type} {a b : β} (hi : i < 160) : (if x2 = 0 then a else if nI i = 0 then b else a) = if bg x2 i = 0 then a else b := by
  unfold bg
  by_cases h : x2 = 0
  · rw [if_pos h, if_pos h, if_pos rfl]
  · rw [if_neg h, if_neg h]
    by_cases h0 : i = 0
    · rw [if_pos (by rw [h0]; rfl), if_pos h0, if_neg (by decide)]
    · rw [if_neg (by rw [show (0 : Int32) = nI 0 from rfl, n_eq (by omega) (by decide)]; exact h0), if_neg h0, if_pos rfl]
theorem c_cond_f (hi : i < 160) (hS : zc (nI d) (bg x2 i) S = some (0, S')) : loopC zc d x2 (fu + 1) x3 x4 i S = some (0, S') := by
  unfold loopC zfX5_condition_L8
  rw [if_neg (by rw [show (160 : Int32) = nI 160 from rfl, n_le (by decide) (by omega)]; omega)]
  simp only [lt_p]
  rw [bg_if hi]
  by_cases hb : bg x2 i = 0
  · rw [hb] at hS
    rw [if_pos hb, hS, bd2_some, if_pos rfl]
  · have hb1 : bg x2 i = 1 := by unfold bg at hb ⊢; repeat' split at hb
                                 all_goals simp_all
    rw [hb1] at hS
    rw [if_neg hb, hS, bd2_some, if_pos rfl]
theorem c_cond_s (hq : zIsR q) (h3 : σ 46 3 = nI q) (hT : CT σ t n) (hi : i < 160) (hp : p1 ≤ n) (hl : l1 + 2 ≤ 320) (hS : zc (nI d) (bg x2 i) S = some (1, CM σ q (nI p1) w (nI l1) f1)) :
    loopC zc d x2 (fu + 1) x3 x4 i S =
    if sg t n (skp t n p1) = 38 then loopC zc d x2 fu 1 x4 (i + 1) (CM σ q (nI (skp t n p1 + 1)) w (nI (l1 + (opa x3).length)) (wrs f1 l1 (opa x3)))
    else if sg t n (skp t n p1) = 124 then loopC zc d x2 fu 0 1 (i + 1) (CM σ q (nI (skp t n p1 + 1)) w (nI (l1 + (opa x3 ++ opo x4).length)) (wrs f1 l1 (opa x3 ++ opo x4)))
    else some (1, CM σ q (nI (skp t n p1)) w (nI (l1 + (opa x3 ++ opo x4).length)) (wrs f1 l1 (opa x3 ++ opo x4))) := by
  conv => lhs; unfold loopC zfX5_condition_L8
  rw [if_neg (by rw [show (160 : Int32) = nI 160 from rfl, n_le (by decide) (by omega)]; omega)]
  simp only [lt_p]
  rw [bg_if hi]
  have e1 : nI (skp t n p1) + 1 = nI (skp t n p1 + 1) := n_add _ 1
  have e2 : nI i + 1 = nI (i + 1) := n_add _ 1
  have q0 : ∀ a w f v, zfX5_put v (CM σ q a w (nI l1) f) = some (1, CM σ q a w (nI (l1 + 1)) (upd f l1 v)) := fun _ _ _ _ => c_put hq h3 (by omega)
  have q1 : ∀ a w f v, zfX5_put v (CM σ q a w (nI (l1 + 1)) f) = some (1, CM σ q a w (nI (l1 + 1 + 1)) (upd f (l1 + 1) v)) := fun _ _ _ _ => c_put hq h3 (by omega)
  have n0 : ¬ ((1 : Int32) = 0) := by decide
  have n1 : ¬ ((124 : Int32) = 38) := by decide
  generalize ho : sg t n (skp t n p1) = o
  unfold loopC opa opo
  have hb : bg x2 i = 0 ∨ bg x2 i = 1 := by
    unfold bg; repeat' split
    all_goals first | exact Or.inl rfl | exact Or.inr rfl
  rcases hb with hb | hb
  all_goals
    rw [hb] at hS
    rw [hb]
    by_cases hx3 : x3 = 0 <;> by_cases hx4 : x4 = 0
    all_goals
      simp only [n0, hS, hx3, hx4, if_true, if_false, q0, q1, bd2_some, c_sg hq hT hp, ho, CM_p hq, CM_sp hq, e1, e2, List.nil_append, List.append_nil, List.cons_append, List.length_nil, List.length_cons, Nat.add_zero, Nat.zero_add, wrs]
      try (by_cases a1 : o = 38
           · subst a1; simp only [n0, if_true, if_false]
           · by_cases a2 : o = 124
             · subst a2; simp only [n1, n0, if_true, if_false]; try rfl
             · simp only [a1, a2, if_false, if_true]; try rfl)
end
