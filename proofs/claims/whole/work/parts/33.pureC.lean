/-! ===== what a rule's code does on a stack ===== -/
def jn (s a b : Int32) : Int32 := (zfX4_joined s a b).getD 0
theorem jn_some (s a b : Int32) : zfX4_joined s a b = some (jn s a b) := by
  have h : (zfX4_joined s a b).isSome = true := by
    unfold zfX4_joined
    simp only [lt_p]
    by_cases hb : b = 0
    · simp only [hb, if_true, apply_ite Option.isSome, Option.isSome_some, ite_self]
    · simp only [hb, if_false, not_false_iff, ck, if_true, apply_ite Option.isSome, Option.isSome_some, ite_self]
  obtain ⟨v, h⟩ := Option.isSome_iff_exists.mp h
  unfold jn
  rw [h]; rfl
theorem jn_times (a b : Int32) : jn 42 a b = zfX12_within (a.toInt64 * b.toInt64) := by
  unfold jn zfX4_joined; rfl
theorem jn_plus (a b : Int32) : jn 43 a b = zfX12_within (a.toInt64 + b.toInt64) := by
  unfold jn zfX4_joined; rfl
theorem jn_minus (a b : Int32) : jn 45 a b = zfX12_within (a.toInt64 - b.toInt64) := by
  unfold jn zfX4_joined; rfl
theorem jn_div0 (a : Int32) : jn 47 a 0 = zfX12_within 0 := by
  unfold jn zfX4_joined; rfl
theorem jn_div (a b : Int32) (hb : ¬ b = 0) : jn 47 a b = zfX12_within (a / b).toInt64 := by
  unfold jn zfX4_joined
  simp only [lt_p, hb, if_false, ck, not_false_iff, if_true]
  rfl
theorem jn_eq (a b : Int32) : jn 61 a b = if a = b then 1 else 0 := by
  unfold jn zfX4_joined; simp only [lt_p]
  by_cases h : a = b
  · simp only [h, if_true]; rfl
  · simp only [h, if_false]; rfl
theorem jn_lt (a b : Int32) : jn 60 a b = if b ≤ a then 0 else 1 := by
  unfold jn zfX4_joined; simp only [lt_p]
  by_cases h : b ≤ a
  · simp only [h, if_true]; rfl
  · simp only [h, if_false]; rfl
theorem jn_gt (a b : Int32) : jn 62 a b = if a ≤ b then 0 else 1 := by
  unfold jn zfX4_joined; simp only [lt_p]
  by_cases h : a ≤ b
  · simp only [h, if_true]; rfl
  · simp only [h, if_false]; rfl
theorem jn_and {a b : Int32} (ha : zbo a) (hb : zbo b) : jn 38 a b = if a = 0 then 0 else b := by
  rcases ha with rfl | rfl <;> rcases hb with rfl | rfl <;> rfl
theorem jn_or {a b : Int32} (ha : zbo a) (hb : zbo b) : jn 124 a b = if a = 0 then b else 1 := by
  rcases ha with rfl | rfl <;> rcases hb with rfl | rfl <;> rfl
theorem within_in (x : Int64) : -1000000 ≤ (zfX12_within x).toInt ∧ (zfX12_within x).toInt ≤ 1000000 := by
  have h : ∀ y : Int64, -1000000 ≤ y.toInt → y.toInt ≤ 1000000 → -1000000 ≤ (Int64.toInt32 y).toInt ∧ (Int64.toInt32 y).toInt ≤ 1000000 := by
    intro y h1 h2
    have e : (Int64.toInt32 y).toInt = y.toInt := by
      rw [Int64.toInt_toInt32]
      exact Int.bmod_eq_of_le (by omega) (by omega)
    rw [e]; exact ⟨h1, h2⟩
  have e1 : (-1000000 : Int64).toInt = -1000000 := by decide
  have e2 : (1000000 : Int64).toInt = 1000000 := by decide
  have m1 : (zminL 1000000 x).toInt ≤ 1000000 := by
    unfold zminL
    split
    · rename_i hx; rw [Int64.lt_iff_toInt_lt] at hx; omega
    · omega
  unfold zfX12_within zmaxL
  split
  · exact h _ (by omega) (by omega)
  · rename_i hx
    rw [Int64.lt_iff_toInt_lt] at hx
    exact h _ (by omega) m1
/-- what stands where there was too little: so much that no code makes one value of it -/
def zbig : List Int32 := List.replicate 1000 0
/-- one step of code on a stack, the top first -/
def stp (lam : Nat → Int32) (c : Int32) (st : List Int32) : List Int32 :=
  if c < 20000 then (if c < 10000 then (if c < 0 then zbig else c :: st) else if c < 10006 then lam (ix (c - 10000)) :: st else zbig) else
  if c = 20059 ∨ c = 20063 then zbig else
  match st with
  | b :: a :: st => if c = 20033 then (1 - b) :: a :: st else jn (c - 20000) a b :: st
  | [b] => if c = 20033 then [1 - b] else zbig
  | [] => zbig
def run (lam : Nat → Int32) (C : List Int32) (st : List Int32) : List Int32 := C.foldl (fun st c => stp lam c st) st
theorem run_app {lam : Nat → Int32} {C C2 : List Int32} {st : List Int32} : run lam (C ++ C2) st = run lam C2 (run lam C st) := List.foldl_append
/-- the code puts one value down -/
def Runs (lam : Nat → Int32) (C : List Int32) (v : Int32) : Prop := ∀ st, run lam C st = v :: st
theorem Runs.num {lam : Nat → Int32} {v : Int32} (h : v < 10000) (h0 : ¬ v < 0) : Runs lam [v] v := by
  intro st
  show stp lam v st = _
  unfold stp
  rw [if_pos (by grind), if_pos h, if_neg h0]
theorem Runs.let_ {lam : Nat → Int32} {k : Nat} (h : k < 6) : Runs lam [10000 + nI k] (lam k) := by
  intro st
  show stp lam _ st = _
  unfold stp
  have e : (10000 : Int32) + nI k = nI (10000 + k) := n_add 10000 k
  rw [e, if_pos (by rw [show (20000 : Int32) = nI 20000 from rfl, n_lt (by omega) (by decide)]; omega), if_neg (by rw [show (10000 : Int32) = nI 10000 from rfl, n_lt (by omega) (by decide)]; omega), if_pos (by rw [show (10006 : Int32) = nI 10006 from rfl, n_lt (by omega) (by decide)]; omega), show (10000 : Int32) = nI 10000 from rfl, n_sub (by omega), n_ix (by omega), show 10000 + k - 10000 = k by omega]
theorem Runs.no {lam : Nat → Int32} {C : List Int32} {a : Int32} (h : Runs lam C a) : Runs lam (C ++ [20033]) (1 - a) := by
  intro st
  rw [run_app, h st]
  show stp lam 20033 (a :: st) = _
  unfold stp
  rw [if_neg (by decide), if_neg (by decide)]
  cases st with
  | nil => exact if_pos rfl
  | cons x st => simp
/-! ===== both readers of rules at one place ===== -/
def lamR (σ : Mm) (k : Nat) : Int32 := σ 707 (ix (lett k))
def LO (σ : Mm) : Prop := ∀ k, k < 6 → -2147483648 < (lamR σ k).toInt
theorem lamR_rm {σ : Mm} {a f d : Int32} : lamR (RM σ a f d) = lamR σ := by
  funext k; unfold lamR; rw [RM_c (by decide)]
/-- at place p both fail at one place, or both go on to one place, the class with code for what the reference answers -/
def Rel1 (t : Nat → Int32) (n p d : Nat) (Fc Fr : Mm → Option (Int32 × Mm)) : Prop :=
  (∃ e, p ≤ e ∧ e ≤ n ∧ (∀ σ q w l f, CT σ t n → zIsR q → σ 46 3 = nI q → l + (n - p) ≤ 300 → ∃ a l' f', Fc (CM σ q (nI p) w (nI l) f) = some (0, CM σ q a (nI e) l' f')) ∧ (∀ σ, RT σ t n → ∃ v a d', Fr (RM σ (nI p) (-1) (nI d)) = some (v, RM σ a (nI e) d'))) ∨
  (∃ p' C, p < p' ∧ p' ≤ n ∧ C.length ≤ p' - p ∧ (∀ σ q w l f, CT σ t n → zIsR q → σ 46 3 = nI q → l + (n - p) ≤ 300 → Fc (CM σ q (nI p) w (nI l) f) = some (1, CM σ q (nI p') w (nI (l + C.length)) (wrs f l C))) ∧
    (∀ σ, RT σ t n → ∃ v, Fr (RM σ (nI p) (-1) (nI d)) = some (v, RM σ (nI p') (-1) (nI d)) ∧ (LO σ → Runs (lamR σ) C v ∧ -2147483648 < v.toInt)))
theorem letN_some {x : Int32} {k : Nat} (h : letN x = some k) : k < 6 ∧ x = lett k := by
  unfold letN at h
  repeat' split at h
  all_goals first | (cases h; subst_vars; exact ⟨by decide, rfl⟩) | cases h
theorem lett_in {k : Nat} (h : k < 6) : inb (lett k) 128 ∧ ¬ lett k < 48 ∧ 57 < lett k ∧ lett k ≠ 91 := by
  have : k = 0 ∨ k = 1 ∨ k = 2 ∨ k = 3 ∨ k = 4 ∨ k = 5 := by omega
  rcases this with rfl | rfl | rfl | rfl | rfl | rfl <;> decide
theorem num_lt {t : Nat → Int32} {n r p p' : Nat} {v v' : Int32} (ht : ∀ k, k < n → 0 ≤ (t k).toInt ∧ (t k).toInt < 256) (h : num t n r p v = .ok (p', v')) : ∀ b : Nat, r ≤ 4 → v = nI b → b < 10 ^ (4 - r) → ∃ b', v' = nI b' ∧ b' < 10000 := by
  induction r generalizing p v with
  | zero =>
    intro b hr hv hb
    unfold num at h
    split at h
    · cases h
    · cases h; exact ⟨b, hv, by simpa using hb⟩
  | succ r ih =>
    intro b hr hv hb
    unfold num at h
    split at h
    · rename_i hd
      have h1 := ht p hd.1
      have hd2 := hd.2
      rw [not_or, Int32.lt_iff_toInt_lt, Int32.lt_iff_toInt_lt] at hd2
      have e1 : (48 : Int32).toInt = 48 := by decide
      have e2 : (57 : Int32).toInt = 57 := by decide
      have e3 : t p = nI (ix (t p)) := n_of h1.1
      have e4 : 48 ≤ ix (t p) ∧ ix (t p) ≤ 57 := by unfold ix Int32.toNatClampNeg; omega
      refine ih h (b * 10 + (ix (t p) - 48)) (by omega) ?_ ?_
      · rw [e3, hv, show (48 : Int32) = nI 48 from rfl, n_sub e4.1, show (10 : Int32) = nI 10 from rfl, n_mul, n_add]
        congr 2
        rw [n_ix ix_b]
      · have : 10 ^ (4 - r) = 10 * 10 ^ (4 - (r + 1)) := by rw [show 4 - r = (4 - (r + 1)) + 1 by omega, Nat.pow_succ]; omega
        omega
    · cases h
      have : 10 ^ (4 - (r + 1)) ≤ 10 ^ 3 := Nat.pow_le_pow_right (by decide) (by omega)
      exact ⟨b, hv, by omega⟩
theorem num_err {t : Nat → Int32} {n r p e : Nat} {v : Int32} (hpn : p ≤ n) (h : num t n r p v = .error e) : p ≤ e ∧ e ≤ n := by
  induction r generalizing p v with
  | zero =>
    unfold num at h
    split at h
    · cases h; exact ⟨Nat.le_refl _, hpn⟩
    · cases h
  | succ r ih =>
    unfold num at h
    split at h
    · rename_i hd
      have := ih (p := p + 1) (by omega) h
      exact ⟨by omega, this.2⟩
    · cases h
theorem atom_rel {t : Nat → Int32} {n p d : Nat} (ht : ∀ k, k < n → 0 ≤ (t k).toInt ∧ (t k).toInt < 256) (hn : n ≤ 160) (hp : p ≤ n) (hd : d ≤ 6) {zc : Int32 → Mm → Option (Int32 × Mm)} {zr : Mm → Option (Int32 × Mm)}
    (hrec : d < 6 → ∀ p', p' ≤ n → Rel1 t n p' (d + 1) (zc (nI (d + 1))) zr) : Rel1 t n p d (zfX5_atom zc (nI d)) (zfX12_atom zr) := by
  have hp1 : p ≤ skp t n p := skp_ge
  have hp2 : skp t n p ≤ n := skp_le hp
  cases hl : letN (sg t n (skp t n p)) with
  | some k =>
    obtain ⟨hk, hs⟩ := letN_some hl
    obtain ⟨g1, g2, g3, g4⟩ := lett_in hk
    rw [← hs] at g1 g2 g3 g4
    have hlt : skp t n p < n := by
      apply Classical.byContradiction
      intro q
      have : sg t n (skp t n p) = -1 := if_neg q
      rw [this, show letN (-1) = none by decide] at hl
      cases hl
    refine Or.inr ⟨skp t n p + 1, [10000 + nI k], by omega, by omega, by simp; omega, ?_, ?_⟩
    · intro σ q w l f hT hq h3 h300
      unfold zfX5_atom
      rw [c_sg hq hT hp]
      simp only [bd2_some, lt_p]
      rw [if_neg g2, if_pos g3, if_neg g4, c_let, hl]
      simp only
      rw [CM_p hq, CM_sp hq, c_put hq h3 (by omega), bd2_some, ck_t (Or.inr rfl), show nI (skp t n p) + 1 = nI (skp t n p + 1) from n_add _ 1]
      rfl
    · intro σ hR
      refine ⟨lamR σ k, ?_, fun hL => ⟨Runs.let_ hk, hL k hk⟩⟩
      unfold zfX12_atom
      rw [r_lk hR hp]
      simp only [bd2_some]
      rw [r_among, hl, bd_some]
      simp only [Option.isSome_some, if_true]
      rw [if_neg (by decide)]
      simp only [lt_p]
      rw [ck_t g1, RM_at, RM_sa, show nI (skp t n p) + 1 = nI (skp t n p + 1) from n_add _ 1, RM_c (by decide), hs]
      rfl
  | none =>
    by_cases hb : sg t n (skp t n p) = 91
    · have hlt : skp t n p < n := by
        apply Classical.byContradiction
        intro q
        have : sg t n (skp t n p) = -1 := if_neg q
        rw [this] at hb
        exact absurd hb (by decide)
      by_cases hd6 : d = 6
      · refine Or.inl ⟨skp t n p, hp1, hp2, ?_, ?_⟩
        · intro σ q w l f hT hq h3 h300
          unfold zfX5_atom
          rw [c_sg hq hT hp]
          simp only [bd2_some, lt_p]
          rw [hb, if_neg (by decide), if_pos (by decide), if_pos rfl, hd6, if_neg (by decide), c_wrong hq, bd2_some, ck_t (Or.inl rfl)]
          exact ⟨_, _, _, rfl⟩
        · intro σ hR
          unfold zfX12_atom
          rw [r_lk hR hp]
          simp only [bd2_some]
          rw [r_among, hl, bd_some]
          simp only [Option.isSome_none, Bool.false_eq_true, if_false, if_true]
          rw [if_pos hb]
          unfold zfX12_goesIn
          rw [RM_d, hd6, if_pos (by decide), r_fails, if_pos rfl, bd2_some, ck_t (Or.inl rfl), bd2_some, if_pos rfl]
          exact ⟨_, _, _, rfl⟩
      · have hcl : ∀ σ q w l f, CT σ t n → zIsR q → zfX5_atom zc (nI d) (CM σ q (nI p) w (nI l) f) = bd2 (zc (nI (d + 1)) (CM σ q (nI (skp t n p + 1)) w (nI l) f)) (fun r73 σ73 => if r73 = 0 then some (0, σ73) else bd2 (zfX3_take_46 93 σ73) (fun r82 σ82 => if r82 = 0 then some (0, σ82) else some (1, σ82))) := by
          intro σ q w l f hT hq
          unfold zfX5_atom
          rw [c_sg hq hT hp]
          simp only [bd2_some, lt_p]
          rw [hb, if_neg (by decide), if_pos (by decide), if_pos rfl, if_pos (by rw [show (6 : Int32) = nI 6 from rfl, n_lt (by omega) (by decide)]; omega), CM_p hq, CM_sp hq, show nI (skp t n p) + 1 = nI (skp t n p + 1) from n_add _ 1, show nI d + 1 = nI (d + 1) from n_add _ 1]
        have hrl : ∀ σ, RT σ t n → zfX12_atom zr (RM σ (nI p) (-1) (nI d)) = bd2 (zr (RM σ (nI (skp t n p + 1)) (-1) (nI (d + 1)))) (fun r47 σ47 => bd2 (zfX12_takes 93 σ47) (fun r54 σ54 => if r54 = 0 then (some (0, σ54)) else (lt (zst σ54 703 12 ((σ54 703 12) - 1)) (fun σ69 => some (r47, σ69))))) := by
          intro σ hR
          unfold zfX12_atom
          rw [r_lk hR hp]
          simp only [bd2_some]
          rw [r_among, hl, bd_some]
          simp only [Option.isSome_none, Bool.false_eq_true, if_false, if_true]
          rw [if_pos hb]
          unfold zfX12_goesIn
          rw [RM_d, if_neg (by rw [show (6 : Int32) = nI 6 from rfl, n_eq (by omega) (by decide)]; omega)]
          simp only [lt_p]
          rw [RM_sd, RM_at, RM_sa, bd2_some, if_neg (by decide), show nI (skp t n p) + 1 = nI (skp t n p + 1) from n_add _ 1, show nI d + 1 = nI (d + 1) from n_add _ 1]
        rcases hrec (by omega) (skp t n p + 1) (by omega) with ⟨e, he0, he, hc, hr⟩ | ⟨p', C, h1, h2, h4, hc, hr⟩
        · refine Or.inl ⟨e, by omega, he, ?_, ?_⟩
          · intro σ q w l f hT hq h3 h300
            obtain ⟨a, l', f', hE⟩ := hc σ q w l f hT hq h3 (by omega)
            rw [hcl σ q w l f hT hq, hE, bd2_some, if_pos rfl]
            exact ⟨_, _, _, rfl⟩
          · intro σ hR
            obtain ⟨v, a, d', hE⟩ := hr σ hR
            rw [hrl σ hR, hE, bd2_some, r_takes_f (n_ne1 (by omega)), bd2_some, if_pos rfl]
            exact ⟨_, _, _, rfl⟩
        · by_cases hx : sg t n (skp t n p') = 93
          · have hp3 : p' ≤ skp t n p' := skp_ge
            have hlt2 : skp t n p' < n := by
              apply Classical.byContradiction
              intro q
              have : sg t n (skp t n p') = -1 := if_neg q
              rw [this] at hx
              exact absurd hx (by decide)
            refine Or.inr ⟨skp t n p' + 1, C, by omega, by omega, by omega, ?_, ?_⟩
            · intro σ q w l f hT hq h3 h300
              rw [hcl σ q w l f hT hq, hc σ q w l f hT hq h3 (by omega), bd2_some, if_neg (by decide), c_take hq hT h2, if_pos hx, bd2_some, if_neg (by decide)]
            · intro σ hR
              obtain ⟨v, hE, hv⟩ := hr σ hR
              refine ⟨v, ?_, hv⟩
              rw [hrl σ hR, hE, bd2_some, r_takes hR h2, if_pos hx, bd2_some, if_neg (by decide), lt_p, RM_d, RM_sd, show nI (d + 1) - 1 = nI d by rw [show (1 : Int32) = nI 1 from rfl, n_sub (by omega)]; rfl]
          · refine Or.inl ⟨skp t n p', by have := skp_ge (t := t) (n := n) (p := p'); omega, skp_le h2, ?_, ?_⟩
            · intro σ q w l f hT hq h3 h300
              rw [hcl σ q w l f hT hq, hc σ q w l f hT hq h3 (by omega), bd2_some, if_neg (by decide), c_take hq hT h2, if_neg hx, bd2_some, if_pos rfl]
              exact ⟨_, _, _, rfl⟩
            · intro σ hR
              obtain ⟨v, hE, hv⟩ := hr σ hR
              rw [hrl σ hR, hE, bd2_some, r_takes hR h2, if_neg hx, bd2_some, if_pos rfl]
              exact ⟨_, _, _, rfl⟩
    · have hnum := isd_iff (t := t) (n := n) (p := skp t n p) (fun k hk => (ht k hk).1)
      by_cases hdg : isd t n (skp t n p)
      · obtain ⟨g1, g2⟩ := hnum.mp hdg
        have hcl : ∀ σ q w l f, CT σ t n → zIsR q → zfX5_atom zc (nI d) (CM σ q (nI p) w (nI l) f) = bd2 (match num t n 4 (skp t n p) 0 with | .error e => some ((-1 : Int32), CM σ q (nI e) (nI e) (nI l) f) | .ok (p', v) => some (v, CM σ q (nI p') w (nI l) f)) (fun r19 σ19 => if r19 = -1 then some (0, σ19) else bd2 (zfX5_put r19 σ19) (fun r30 σ30 => if r30 = 0 then some (0, σ30) else some (1, σ30))) := by
          intro σ q w l f hT hq
          unfold zfX5_atom
          rw [c_sg hq hT hp]
          simp only [bd2_some, lt_p]
          have e := c_num (m := 4) (w := w) (l := nI l) (f := f) hq hT ht hdg.1 hdg.2 (by decide) (by decide)
          rw [if_neg g1, if_neg g2, show (4 : Int32) = nI 4 from rfl, e]
          cases num t n 4 (skp t n p) 0 <;> rfl
        have hrl : ∀ σ, RT σ t n → zfX12_atom zr (RM σ (nI p) (-1) (nI d)) = match num t n 4 (skp t n p) 0 with | .error e => some (0, RM σ (nI e) (nI e) (nI d)) | .ok (p', v) => some (v, RM σ (nI p') (-1) (nI d)) := by
          intro σ hR
          unfold zfX12_atom
          rw [r_lk hR hp]
          simp only [bd2_some]
          rw [r_among, hl, bd_some]
          simp only [Option.isSome_none, Bool.false_eq_true, if_false, if_true]
          rw [if_neg hb, r_isDigit (hR.rm _ _ _) RM_at hp2, bd_some, if_pos hdg]
          simp only [lt_p]
          rw [if_neg (by decide), ← n_0, r_num hR 4 0 (skp t n p) _ NF (by decide) hp2 (by decide)]
          cases hnm : num t n 4 (skp t n p) (nI 0) with
          | error e =>
            simp only
            rw [r_fails, if_pos rfl]
            rfl
          | ok x => rfl
        cases hnm : num t n 4 (skp t n p) 0 with
        | error e =>
          refine Or.inl ⟨e, by have := (num_err hp2 hnm).1; omega, (num_err hp2 hnm).2, ?_, ?_⟩
          · intro σ q w l f hT hq h3 h300
            rw [hcl σ q w l f hT hq, hnm]
            simp only [bd2_some, if_true]
            exact ⟨_, _, _, rfl⟩
          · intro σ hR
            rw [hrl σ hR, hnm]
            exact ⟨_, _, _, rfl⟩
        | ok x =>
          obtain ⟨p', v⟩ := x
          obtain ⟨b, hvb, hb4⟩ := num_lt ht hnm 0 (by decide) rfl (by decide)
          have hp3 := num_pos hdg hnm
          have hp4 := (num_ge hp2 hnm).2
          have hv1 : v ≠ -1 := by rw [hvb]; exact n_ne1 (by omega)
          refine Or.inr ⟨p', [v], by omega, hp4, by simp; omega, ?_, ?_⟩
          · intro σ q w l f hT hq h3 h300
            rw [hcl σ q w l f hT hq, hnm]
            simp only [bd2_some]
            rw [if_neg hv1, c_put hq h3 (by omega), bd2_some, if_neg (by decide)]
            rfl
          · intro σ hR
            refine ⟨v, by rw [hrl σ hR, hnm], fun _ => ⟨Runs.num ?_ (by rw [hvb]; exact n_nlt0 (by omega)), ?_⟩⟩
            · rw [hvb, show (10000 : Int32) = nI 10000 from rfl, n_lt (by omega) (by decide)]; exact hb4
            · rw [hvb, n_ti (by omega)]; omega
      · have hnd : ¬ (¬ sg t n (skp t n p) < 48 ∧ ¬ 57 < sg t n (skp t n p)) := fun q => hdg (hnum.mpr q)
        refine Or.inl ⟨skp t n p, hp1, hp2, ?_, ?_⟩
        · intro σ q w l f hT hq h3 h300
          have e : zfX5_atom zc (nI d) (CM σ q (nI p) w (nI l) f) = some (0, CM σ q (nI (skp t n p)) (nI (skp t n p)) (nI l) f) := by
            unfold zfX5_atom
            rw [c_sg hq hT hp]
            simp only [bd2_some, lt_p]
            rw [if_neg hb, c_let, hl]
            simp only
            rw [c_wrong hq, bd2_some, ck_t (Or.inl rfl)]
            by_cases g1 : sg t n (skp t n p) < 48
            · rw [if_pos g1]
            · rw [if_neg g1, if_pos (Classical.byContradiction fun g2 => hnd ⟨g1, g2⟩)]
          exact ⟨_, _, _, e⟩
        · intro σ hR
          unfold zfX12_atom
          rw [r_lk hR hp]
          simp only [bd2_some]
          rw [r_among, hl, bd_some]
          simp only [Option.isSome_none, Bool.false_eq_true, if_false, if_true]
          rw [if_neg hb, r_isDigit (hR.rm _ _ _) RM_at hp2, bd_some, if_neg hdg]
          simp only [lt_p]
          rw [if_pos trivial, r_fails, if_pos rfl, bd2_some]
          obtain ⟨m, hm⟩ := nf7
          rw [hm]
          unfold zfX12_atom_L90
          rw [r_isDigit (hR.rm _ _ _) RM_at hp2, bd_some, if_neg hdg, if_pos rfl]
          exact ⟨_, _, _, rfl⟩
/-- as Rel1, with what stands on the stack already: a sum so far, a product so far -/
def Rel2 (t : Nat → Int32) (n p d x : Nat) (pre : Int32 → Int32 → List Int32) (Fc : Mm → Option (Int32 × Mm)) (Fr : Int32 → Int32 → Mm → Option (Int32 × Mm)) : Prop :=
  (∃ e, p ≤ e ∧ e ≤ n ∧ (∀ σ q w l f, CT σ t n → zIsR q → σ 46 3 = nI q → l + (n - p) + x ≤ 300 → ∃ a l' f', Fc (CM σ q (nI p) w (nI l) f) = some (0, CM σ q a (nI e) l' f')) ∧ (∀ σ s v, RT σ t n → ∃ v' a d', Fr s v (RM σ (nI p) (-1) (nI d)) = some (v', RM σ a (nI e) d'))) ∨
  (∃ p' C, p < p' ∧ p' ≤ n ∧ C.length ≤ p' - p + x ∧ (∀ σ q w l f, CT σ t n → zIsR q → σ 46 3 = nI q → l + (n - p) + x ≤ 300 → Fc (CM σ q (nI p) w (nI l) f) = some (1, CM σ q (nI p') w (nI (l + C.length)) (wrs f l C))) ∧
    (∀ σ s v, RT σ t n → ∃ v', Fr s v (RM σ (nI p) (-1) (nI d)) = some (v', RM σ (nI p') (-1) (nI d)) ∧ (LO σ → -2147483648 < s.toInt → -2147483648 < v.toInt → (∀ st, run (lamR σ) C (pre s v ++ st) = v' :: st) ∧ -2147483648 < v'.toInt)))
/-- what the reference makes of two factors -/
def tim (o : Int32) (v w : Int32) : Int32 := if o = 42 then zfX12_within (v.toInt64 * w.toInt64) else if w = 0 then zfX12_within 0 else zfX12_within (v.toInt64 / w.toInt64)
def plu (o : Int32) (v w : Int32) : Int32 := if o = 43 then zfX12_within (v.toInt64 + w.toInt64) else zfX12_within (v.toInt64 - w.toInt64)
theorem to64_0 (w : Int32) : w.toInt64 = 0 ↔ w = 0 := by
  rw [← Int64.toInt_inj, ← Int32.toInt_inj, Int32.toInt_toInt64]; rfl
theorem lg_cmp0 (w : Int32) : lg_cmp w.toInt64 0 = 0 ↔ w = 0 := by
  rw [← to64_0 w]
  unfold lg_cmp
  by_cases h : w.toInt64 = 0
  · rw [h]; decide
  · rw [if_neg h]
    split
    · simp [h]
    · simp [h]
theorem div64 (v w : Int32) (hv : -2147483648 < v.toInt) : v.toInt64 / w.toInt64 = (v / w).toInt64 := by
  rw [← Int64.toInt_inj, Int64.toInt_div, Int32.toInt_toInt64, Int32.toInt_toInt64, Int32.toInt_toInt64, Int32.toInt_div]
  have h1 : (v.toInt.tdiv w.toInt).natAbs ≤ v.toInt.natAbs := by
    rw [Int.natAbs_tdiv]; exact Nat.div_le_self _ _
  have h2 := Int32.toInt_lt v
  generalize v.toInt.tdiv w.toInt = x at h1 ⊢
  rw [Int.bmod_eq_of_le (by omega) (by omega), Int.bmod_eq_of_le (by omega) (by omega)]
theorem jn_tim (o v w : Int32) (ho : o = 42 ∨ o = 47) (hv : -2147483648 < v.toInt) : jn o v w = tim o v w := by
  unfold tim
  rcases ho with rfl | rfl
  · rw [if_pos rfl, jn_times]
  · rw [if_neg (by decide)]
    by_cases hw : w = 0
    · subst hw; rw [if_pos rfl, jn_div0]
    · rw [if_neg hw, jn_div _ _ hw, div64 _ _ hv]
theorem jn_plu (o v w : Int32) (ho : o = 43 ∨ o = 45) : jn o v w = plu o v w := by
  unfold plu
  rcases ho with rfl | rfl
  · rw [if_pos rfl, jn_plus]
  · rw [if_neg (by decide), jn_minus]
section
variable {σ : Mm} {t : Nat → Int32} {n p fu : Nat} {d v : Int32} {zr : Mm → Option (Int32 × Mm)} {kT : Int32 → Mm → Option (Int32 × Mm)}
theorem r_term_f {a f : Int32} (hf : f ≠ -1) : zfX12_term_L5 zr kT (fu + 1) v (RM σ a f d) = kT v (RM σ a f d) := by
  unfold zfX12_term_L5
  rw [RM_f, if_neg hf]
theorem r_sum_f {a f : Int32} (hf : f ≠ -1) : zfX12_sum_L5 zr kT (fu + 1) v (RM σ a f d) = kT v (RM σ a f d) := by
  unfold zfX12_sum_L5
  rw [RM_f, if_neg hf]
theorem r_term_s (h : RT σ t n) (hp : p ≤ n) : zfX12_term_L5 zr kT (fu + 1) v (RM σ (nI p) (-1) d) =
    if sg t n (skp t n p) = 42 ∨ sg t n (skp t n p) = 47 then bd2 (zfX12_atom zr (RM σ (nI (skp t n p + 1)) (-1) d)) (fun r57 σ57 => zfX12_term_L5 zr kT fu (tim (sg t n (skp t n p)) v r57) σ57)
    else kT v (RM σ (nI (skp t n p)) (-1) d) := by
  have h2 : skp t n p ≤ n := skp_le hp
  conv => lhs; unfold zfX12_term_L5
  rw [RM_f, if_pos rfl, r_lk h hp]
  simp only [lt_p, bd2_some]
  rw [r_lk h h2]
  simp only [bd2_some]
  rw [skp_skp]
  have hat : RM σ (nI (skp t n p)) (-1) d 703 10 = nI (skp t n p) := RM_at
  by_cases e1 : sg t n (skp t n p) = 42
  · rw [if_pos e1, if_pos (Or.inl e1), if_pos e1, RM_at, RM_sa, show nI (skp t n p) + 1 = nI (skp t n p + 1) from n_add _ 1]
    congr 1
    funext r57 σ57
    rw [if_neg (by decide)]
    unfold tim
    rw [if_pos e1]
  · rw [if_neg e1]
    by_cases e2 : sg t n (skp t n p) = 47
    · rw [if_pos e2, if_pos (Or.inr e2), r_lk h h2]
      simp only [bd2_some]
      rw [skp_skp, if_neg e1, RM_at, RM_sa, show nI (skp t n p) + 1 = nI (skp t n p + 1) from n_add _ 1]
      congr 1
      funext r57 σ57
      rw [if_pos trivial]
      unfold tim
      rw [if_neg e1]
      by_cases hw : r57 = 0
      · rw [if_pos ((lg_cmp0 _).mpr hw), if_pos hw]
      · rw [if_neg (fun q => hw ((lg_cmp0 _).mp q)), if_neg hw, ck_t (c := ¬ r57.toInt64 = 0) (fun q => hw ((to64_0 _).mp q))]
    · rw [if_neg e2, if_neg (by simp [e1, e2])]
theorem r_sum_s (h : RT σ t n) (hp : p ≤ n) : zfX12_sum_L5 zr kT (fu + 1) v (RM σ (nI p) (-1) d) =
    if sg t n (skp t n p) = 43 ∨ sg t n (skp t n p) = 45 then bd2 (zfX12_term zr (RM σ (nI (skp t n p + 1)) (-1) d)) (fun r57 σ57 => zfX12_sum_L5 zr kT fu (plu (sg t n (skp t n p)) v r57) σ57)
    else kT v (RM σ (nI (skp t n p)) (-1) d) := by
  have h2 : skp t n p ≤ n := skp_le hp
  conv => lhs; unfold zfX12_sum_L5
  rw [RM_f, if_pos rfl, r_lk h hp]
  simp only [lt_p, bd2_some]
  rw [r_lk h h2]
  simp only [bd2_some]
  rw [skp_skp]
  by_cases e1 : sg t n (skp t n p) = 43
  · rw [if_pos e1, if_pos (Or.inl e1), if_pos e1, RM_at, RM_sa, show nI (skp t n p) + 1 = nI (skp t n p + 1) from n_add _ 1]
    congr 1
    funext r57 σ57
    rw [if_neg (by decide)]
    unfold plu
    rw [if_pos e1]
  · rw [if_neg e1]
    by_cases e2 : sg t n (skp t n p) = 45
    · rw [if_pos e2, if_pos (Or.inr e2), r_lk h h2]
      simp only [bd2_some]
      rw [skp_skp, if_neg e1, RM_at, RM_sa, show nI (skp t n p) + 1 = nI (skp t n p + 1) from n_add _ 1]
      congr 1
      funext r57 σ57
      rw [if_pos trivial]
      unfold plu
      rw [if_neg e1]
    · rw [if_neg e2, if_neg (by simp [e1, e2])]
end
/-- the code of a sign that is still to come, none for -1 -/
def ops (x : Int32) : List Int32 := if x = -1 then [] else [20000 + x]
section
variable {σ : Mm} {t : Nat → Int32} {n p1 q l1 fu i : Nat} {w x1 x2 x3 : Int32} {f1 : Nat → Int32} {S : Mm} {k122 k23 k101 : Mm → Option (Int32 × Mm)} {zc : Int32 → Mm → Option (Int32 × Mm)}
theorem c_sum_f (hi : i < 160) (hS : ∃ S', zfX5_atom zc x1 S = some (0, S') ∧ True) : ∃ S', zfX5_atom zc x1 S = some (0, S') ∧ zfX5_sum_L7 k122 zc x1 k23 k101 (fu + 1) x2 x3 (nI i) S = k23 S' := by
  obtain ⟨S', h, -⟩ := hS
  refine ⟨S', h, ?_⟩
  unfold zfX5_sum_L7
  rw [if_neg (by rw [show (160 : Int32) = nI 160 from rfl, n_le (by decide) (by omega)]; omega), h, bd2_some, if_pos rfl]
theorem c_sum_s (hq : zIsR q) (h3 : σ 46 3 = nI q) (hT : CT σ t n) (hi : i < 160) (hp : p1 ≤ n) (hl : l1 + 2 ≤ 320) (hS : zfX5_atom zc x1 S = some (1, CM σ q (nI p1) w (nI l1) f1)) :
    zfX5_sum_L7 k122 zc x1 k23 k101 (fu + 1) x2 x3 (nI i) S =
    if sg t n (skp t n p1) = 42 ∨ sg t n (skp t n p1) = 47 then zfX5_sum_L7 k122 zc x1 k23 k101 fu (sg t n (skp t n p1)) x3 (nI (i + 1)) (CM σ q (nI (skp t n p1 + 1)) w (nI (l1 + (ops x2).length)) (wrs f1 l1 (ops x2)))
    else if sg t n (skp t n p1) = 43 ∨ sg t n (skp t n p1) = 45 then zfX5_sum_L7 k122 zc x1 k23 k101 fu (-1) (sg t n (skp t n p1)) (nI (i + 1)) (CM σ q (nI (skp t n p1 + 1)) w (nI (l1 + (ops x2 ++ ops x3).length)) (wrs f1 l1 (ops x2 ++ ops x3)))
    else k101 (CM σ q (nI (skp t n p1)) w (nI (l1 + (ops x2 ++ ops x3).length)) (wrs f1 l1 (ops x2 ++ ops x3))) := by
  conv => lhs; unfold zfX5_sum_L7
  rw [if_neg (by rw [show (160 : Int32) = nI 160 from rfl, n_le (by decide) (by omega)]; omega), hS, bd2_some, if_neg (by decide)]
  simp only [lt_p]
  have e1 : nI (skp t n p1) + 1 = nI (skp t n p1 + 1) := n_add _ 1
  have e2 : nI i + 1 = nI (i + 1) := n_add _ 1
  have q0 : ∀ a w f v, zfX5_put v (CM σ q a w (nI l1) f) = some (1, CM σ q a w (nI (l1 + 1)) (upd f l1 v)) := fun _ _ _ _ => c_put hq h3 (by omega)
  have q1 : ∀ a w f v, zfX5_put v (CM σ q a w (nI (l1 + 1)) f) = some (1, CM σ q a w (nI (l1 + 1 + 1)) (upd f (l1 + 1) v)) := fun _ _ _ _ => c_put hq h3 (by omega)
  have n1 : ¬ ((42 : Int32) = -1) := by decide
  have n2 : ¬ ((47 : Int32) = -1) := by decide
  have n3 : ¬ ((47 : Int32) = 42) := by decide
  have n4 : ¬ ((43 : Int32) = 42) := by decide
  have n5 : ¬ ((43 : Int32) = 47) := by decide
  have n6 : ¬ ((45 : Int32) = 42) := by decide
  have n7 : ¬ ((45 : Int32) = 47) := by decide
  have n8 : ¬ ((45 : Int32) = 43) := by decide
  generalize ho : sg t n (skp t n p1) = o
  unfold ops
  by_cases hx2 : x2 = -1 <;> by_cases hx3 : x3 = -1
  all_goals
    simp only [hx2, hx3, if_true, if_false, q0, q1, bd2_some, c_sg hq hT hp, ho, CM_p hq, CM_sp hq, e1, e2, List.nil_append, List.append_nil, List.cons_append, List.length_nil, List.length_cons, Nat.add_zero, Nat.zero_add, wrs]
    by_cases a1 : o = 42
    · subst a1; simp only [n1, if_true, if_false, true_or]
    · by_cases a2 : o = 47
      · subst a2; simp only [n2, n3, if_true, if_false, or_true]
      · by_cases a3 : o = 43
        · subst a3; simp only [n4, n5, if_true, if_false, or_false, true_or, false_or]; try rfl
        · by_cases a4 : o = 45
          · subst a4; simp only [n6, n7, n8, if_true, if_false, or_true, false_or]; try rfl
          · simp only [a1, a2, a3, a4, if_false, or_false]; try rfl
end
def cmt (x v r : Int32) : Int32 := if x = -1 then r else tim x v r
def cmp_ (x s r : Int32) : Int32 := if x = -1 then r else plu x s r
def KT (zr : Mm → Option (Int32 × Mm)) (x3 : Int32) (fu2 : Nat) (s x : Int32) (σ : Mm) : Option (Int32 × Mm) := zfX12_sum_L5 zr (fun a b => some (a, b)) fu2 (cmp_ x3 s x) σ
def RB (zr : Mm → Option (Int32 × Mm)) (x2 x3 : Int32) (fu1 fu2 : Nat) (s v : Int32) (σ : Mm) : Option (Int32 × Mm) := bd2 (zfX12_atom zr σ) (fun r57 σ57 => zfX12_term_L5 zr (KT zr x3 fu2 s) fu1 (cmt x2 v r57) σ57)
theorem bd2_bd2 {α β γ : Type} {o : Option (α × Mm)} {k : α → Mm → Option (β × Mm)} {g : β → Mm → Option γ} : bd2 (bd2 o k) g = bd2 o (fun a σ => bd2 (k a σ) g) := by
  cases o <;> rfl
theorem bd2_if {α β : Type} {c : Prop} [Decidable c] {a b : Option (α × Mm)} {g : α → Mm → Option β} : bd2 (if c then a else b) g = if c then bd2 a g else bd2 b g := by split <;> rfl
theorem bd2_ck {α β : Type} {c : Prop} [Decidable c] {a : Option (α × Mm)} {g : α → Mm → Option β} : bd2 (ck c a) g = ck c (bd2 a g) := by
  unfold ck; split <;> rfl
theorem term_k {zr : Mm → Option (Int32 × Mm)} {K : Int32 → Mm → Option (Int32 × Mm)} : ∀ fu v σ, bd2 (zfX12_term_L5 zr (fun a b => some (a, b)) fu v σ) K = zfX12_term_L5 zr K fu v σ := by
  intro fu
  induction fu with
  | zero => intro v σ; rfl
  | succ fu ih =>
    intro v σ
    unfold zfX12_term_L5
    simp only [lt_p, bd2_if, bd2_bd2, bd2_some, bd2_ck, ih]
def pre2 (x2 x3 s v : Int32) : List Int32 := (if x2 = -1 then [] else [v]) ++ (if x3 = -1 then [] else [s])
theorem tim_in {x v r : Int32} : -2147483648 < (tim x v r).toInt := by
  unfold tim; repeat' split
  all_goals have := within_in; first | (have := (within_in (v.toInt64 * r.toInt64)).1; omega) | (have := (within_in 0).1; omega) | (have := (within_in (v.toInt64 / r.toInt64)).1; omega)
theorem plu_in {x v r : Int32} : -2147483648 < (plu x v r).toInt := by
  unfold plu; split
  · have := (within_in (v.toInt64 + r.toInt64)).1; omega
  · have := (within_in (v.toInt64 - r.toInt64)).1; omega
theorem cmt_in {x v r : Int32} (h : -2147483648 < r.toInt) : -2147483648 < (cmt x v r).toInt := by
  unfold cmt; split
  · exact h
  · exact tim_in
theorem cmp_in {x v r : Int32} (h : -2147483648 < r.toInt) : -2147483648 < (cmp_ x v r).toInt := by
  unfold cmp_; split
  · exact h
  · exact plu_in
theorem run_t {lam : Nat → Int32} {x v r : Int32} {st : List Int32} (hx : x = -1 ∨ x = 42 ∨ x = 47) (hv : -2147483648 < v.toInt) : run lam (ops x) (r :: ((if x = -1 then [] else [v]) ++ st)) = cmt x v r :: st := by
  unfold ops cmt
  by_cases h : x = -1
  · rw [if_pos h, if_pos h, if_pos h]; rfl
  · rw [if_neg h, if_neg h, if_neg h]
    have hx : x = 42 ∨ x = 47 := by rcases hx with h' | h' | h' <;> simp_all
    show stp lam (20000 + x) (r :: v :: st) = _
    unfold stp
    rw [if_neg (by rcases hx with rfl | rfl <;> decide), if_neg (by rcases hx with rfl | rfl <;> decide)]
    simp only
    rw [if_neg (by rcases hx with rfl | rfl <;> decide), show 20000 + x - 20000 = x by grind, jn_tim _ _ _ hx hv]
theorem run_p {lam : Nat → Int32} {x v r : Int32} {st : List Int32} (hx : x = -1 ∨ x = 43 ∨ x = 45) : run lam (ops x) (r :: ((if x = -1 then [] else [v]) ++ st)) = cmp_ x v r :: st := by
  unfold ops cmp_
  by_cases h : x = -1
  · rw [if_pos h, if_pos h, if_pos h]; rfl
  · rw [if_neg h, if_neg h, if_neg h]
    have hx : x = 43 ∨ x = 45 := by rcases hx with h' | h' | h' <;> simp_all
    show stp lam (20000 + x) (r :: v :: st) = _
    unfold stp
    rw [if_neg (by rcases hx with rfl | rfl <;> decide), if_neg (by rcases hx with rfl | rfl <;> decide)]
    simp only
    rw [if_neg (by rcases hx with rfl | rfl <;> decide), show 20000 + x - 20000 = x by grind, jn_plu _ _ _ hx]
theorem wrs_app3 (f : Nat → Int32) (n : Nat) (A B C : List Int32) : wrs f n (A ++ B ++ C) = wrs (wrs (wrs f n A) (n + A.length) B) (n + A.length + B.length) C := by
  rw [wrs_app, wrs_app, List.length_append, Nat.add_assoc]
theorem sum_loop {t : Nat → Int32} {n d : Nat} (ht : ∀ k, k < n → 0 ≤ (t k).toInt ∧ (t k).toInt < 256) (hn : n ≤ 160) (hd : d ≤ 6) {zc : Int32 → Mm → Option (Int32 × Mm)} {zr : Mm → Option (Int32 × Mm)}
    (hrec : d < 6 → ∀ p', p' ≤ n → Rel1 t n p' (d + 1) (zc (nI (d + 1))) zr) : ∀ m p, n - p = m → p ≤ n → ∀ (x2 x3 : Int32) (i fuc fu1 fu2 : Nat), (x2 = -1 ∨ x2 = 42 ∨ x2 = 47) → (x3 = -1 ∨ x3 = 43 ∨ x3 = 45) → i ≤ p → n - p < fuc → n - p < fu1 → n - p < fu2 →
    Rel2 t n p d ((ops x2).length + (ops x3).length) (pre2 x2 x3) (fun S => zfX5_sum_L7 (fun σ122 => bd2 (zfX3_wrong_46 σ122) (fun r123 σ123 => ck (zbo r123) (some (r123, σ123)))) zc (nI d) (fun σ23 => some (0, σ23)) (fun σ101 => some (1, σ101)) fuc x2 x3 (nI i) S) (fun s v S => RB zr x2 x3 fu1 fu2 s v S) := by
  intro m
  induction m using Nat.strongRecOn with
  | _ m ih =>
  intro p hm hp x2 x3 i fuc fu1 fu2 hx2 hx3 hi hfc hf1 hf2
  obtain ⟨fuc, rfl⟩ : ∃ g, fuc = g + 1 := ⟨fuc - 1, by omega⟩
  obtain ⟨fu1, rfl⟩ : ∃ g, fu1 = g + 1 := ⟨fu1 - 1, by omega⟩
  obtain ⟨fu2, rfl⟩ : ∃ g, fu2 = g + 1 := ⟨fu2 - 1, by omega⟩
  have ho2 : (ops x2).length ≤ 1 := by unfold ops; split <;> simp
  have ho3 : (ops x3).length ≤ 1 := by unfold ops; split <;> simp
  rcases atom_rel ht hn hp hd hrec with ⟨e, he0, he, hc, hr⟩ | ⟨p1, C1, h1, h2, h4, hc, hr⟩
  · refine Or.inl ⟨e, he0, he, ?_, ?_⟩
    · intro σ q w l f hT hq h3 h300
      by_cases hi160 : i < 160
      · obtain ⟨a, l', f', hE⟩ := hc σ q w l f hT hq h3 (by omega)
        obtain ⟨S', g1, g2⟩ := c_sum_f (k122 := fun σ122 => bd2 (zfX3_wrong_46 σ122) (fun r123 σ123 => ck (zbo r123) (some (r123, σ123)))) (k23 := fun σ23 => some (0, σ23)) (k101 := fun σ101 => some (1, σ101)) (fu := fuc) (x2 := x2) (x3 := x3) hi160 ⟨_, hE, trivial⟩
        rw [hE] at g1
        cases g1
        exact ⟨a, l', f', g2⟩
      · have hen : e = p := by omega
        refine ⟨nI p, nI l, f, ?_⟩
        show zfX5_sum_L7 _ _ _ _ _ _ _ _ _ _ = _
        unfold zfX5_sum_L7
        rw [if_pos (by rw [show (160 : Int32) = nI 160 from rfl, n_le (by decide) (by omega)]; omega), c_wrong hq, bd2_some, ck_t (Or.inl rfl), hen]
    · intro σ s v hR
      obtain ⟨v', a, d', hE⟩ := hr σ hR
      refine ⟨cmp_ x3 s (cmt x2 v v'), a, d', ?_⟩
      show RB zr x2 x3 (fu1 + 1) (fu2 + 1) s v _ = _
      unfold RB
      rw [hE, bd2_some, r_term_f (n_ne1 (by omega))]
      unfold KT
      rw [r_sum_f (n_ne1 (by omega))]
  · have hp2 : p1 ≤ skp t n p1 := skp_ge
    have hp3 : skp t n p1 ≤ n := skp_le h2
    have hlt : sg t n (skp t n p1) ≠ -1 → skp t n p1 < n := fun q => Classical.byContradiction fun q2 => q (if_neg q2)
    by_cases hi160 : i < 160
    case neg => exact absurd h1 (by omega)
    have hcs := fun σ q w l f hT hq h3 h300 => c_sum_s (k122 := fun σ122 => bd2 (zfX3_wrong_46 σ122) (fun r123 σ123 => ck (zbo r123) (some (r123, σ123)))) (k23 := fun σ23 => some (0, σ23)) (k101 := fun σ101 => some (1, σ101)) (fu := fuc) (x2 := x2) (x3 := x3) hq h3 hT hi160 h2 (l1 := l + C1.length) (by omega) (hc σ q w l f hT hq h3 h300)
    by_cases o1 : sg t n (skp t n p1) = 42 ∨ sg t n (skp t n p1) = 47
    · have hlt := hlt (by rcases o1 with h | h <;> rw [h] <;> decide)
      have hne : sg t n (skp t n p1) ≠ -1 := by rcases o1 with h | h <;> rw [h] <;> decide
      have hol : (ops (sg t n (skp t n p1))).length = 1 := by unfold ops; rw [if_neg hne]; rfl
      have IH := ih (n - (skp t n p1 + 1)) (by omega) (skp t n p1 + 1) rfl (by omega) (sg t n (skp t n p1)) x3 (i + 1) fuc fu1 (fu2 + 1) (Or.inr o1) hx3 (by omega) (by omega) (by omega) (by omega)
      have hrr : ∀ σ s v r, RT σ t n → zfX12_atom zr (RM σ (nI p) (-1) (nI d)) = some (r, RM σ (nI p1) (-1) (nI d)) → RB zr x2 x3 (fu1 + 1) (fu2 + 1) s v (RM σ (nI p) (-1) (nI d)) = RB zr (sg t n (skp t n p1)) x3 fu1 (fu2 + 1) s (cmt x2 v r) (RM σ (nI (skp t n p1 + 1)) (-1) (nI d)) := by
        intro σ s v r hR hE
        conv => lhs; unfold RB
        rw [hE, bd2_some, r_term_s hR h2, if_pos o1]
        unfold RB
        congr 1
        funext r57 σ57
        rw [show cmt (sg t n (skp t n p1)) (cmt x2 v r) r57 = tim (sg t n (skp t n p1)) (cmt x2 v r) r57 from if_neg hne]
      rcases IH with ⟨e, he0, he, hc', hr'⟩ | ⟨p', C', g1, g2, g4, hc', hr'⟩
      · refine Or.inl ⟨e, by omega, he, ?_, ?_⟩
        · intro σ q w l f hT hq h3 h300
          show ∃ a l' f', zfX5_sum_L7 _ _ _ _ _ _ _ _ _ _ = _
          rw [hcs σ q w l f hT hq h3 (by omega), if_pos o1]
          exact hc' σ q w _ _ hT hq h3 (by omega)
        · intro σ s v hR
          obtain ⟨r, hE, -⟩ := hr σ hR
          obtain ⟨v', a, d', hE'⟩ := hr' σ s (cmt x2 v r) hR
          exact ⟨v', a, d', (hrr σ s v r hR hE).trans hE'⟩
      · refine Or.inr ⟨p', C1 ++ ops x2 ++ C', by omega, g2, by simp only [List.length_append]; omega, ?_, ?_⟩
        · intro σ q w l f hT hq h3 h300
          show zfX5_sum_L7 _ _ _ _ _ _ _ _ _ _ = _
          rw [hcs σ q w l f hT hq h3 (by omega), if_pos o1]
          refine (hc' σ q w _ _ hT hq h3 (by omega)).trans ?_
          rw [wrs_app3]
          simp only [List.length_append, Nat.add_assoc]
        · intro σ s v hR
          obtain ⟨r, hE, hv⟩ := hr σ hR
          obtain ⟨v', hE', hv'⟩ := hr' σ s (cmt x2 v r) hR
          refine ⟨v', (hrr σ s v r hR hE).trans hE', fun hL hs hvv => ?_⟩
          obtain ⟨a1, a2⟩ := hv hL
          obtain ⟨b1, b2⟩ := hv' hL hs (cmt_in a2)
          refine ⟨fun st => ?_, b2⟩
          rw [run_app, run_app, a1]
          unfold pre2
          rw [List.append_assoc, run_t hx2 hvv]
          have := b1 st
          unfold pre2 at this
          rw [if_neg hne] at this
          exact this
    · have hKT : ∀ σ s v r, RT σ t n → zfX12_atom zr (RM σ (nI p) (-1) (nI d)) = some (r, RM σ (nI p1) (-1) (nI d)) → RB zr x2 x3 (fu1 + 1) (fu2 + 1) s v (RM σ (nI p) (-1) (nI d)) = zfX12_sum_L5 zr (fun a b => some (a, b)) (fu2 + 1) (cmp_ x3 s (cmt x2 v r)) (RM σ (nI (skp t n p1)) (-1) (nI d)) := by
        intro σ s v r hR hE
        unfold RB
        rw [hE, bd2_some, r_term_s hR h2, if_neg o1]
        rfl
      by_cases o2 : sg t n (skp t n p1) = 43 ∨ sg t n (skp t n p1) = 45
      · have hlt := hlt (by rcases o2 with h | h <;> rw [h] <;> decide)
        have hne : sg t n (skp t n p1) ≠ -1 := by rcases o2 with h | h <;> rw [h] <;> decide
        have hol : (ops (sg t n (skp t n p1))).length = 1 := by unfold ops; rw [if_neg hne]; rfl
        have hom : (ops (-1)).length = 0 := rfl
        have IH := ih (n - (skp t n p1 + 1)) (by omega) (skp t n p1 + 1) rfl (by omega) (-1) (sg t n (skp t n p1)) (i + 1) fuc NF fu2 (Or.inl rfl) (Or.inr o2) (by omega) (by omega) (by unfold NF; omega) (by omega)
        have hrr : ∀ σ s v r, RT σ t n → zfX12_atom zr (RM σ (nI p) (-1) (nI d)) = some (r, RM σ (nI p1) (-1) (nI d)) → RB zr x2 x3 (fu1 + 1) (fu2 + 1) s v (RM σ (nI p) (-1) (nI d)) = RB zr (-1) (sg t n (skp t n p1)) NF fu2 (cmp_ x3 s (cmt x2 v r)) 0 (RM σ (nI (skp t n p1 + 1)) (-1) (nI d)) := by
          intro σ s v r hR hE
          rw [hKT σ s v r hR hE, r_sum_s hR hp3, skp_skp, if_pos o2]
          unfold zfX12_term RB
          generalize NF = N
          simp only [lt_p, bd2_bd2, term_k]
          congr 1
          funext r57 σ57
          have e1 : cmt (-1) 0 r57 = r57 := if_pos rfl
          have e2 : KT zr (sg t n (skp t n p1)) fu2 (cmp_ x3 s (cmt x2 v r)) = fun x σ => zfX12_sum_L5 zr (fun a b => some (a, b)) fu2 (plu (sg t n (skp t n p1)) (cmp_ x3 s (cmt x2 v r)) x) σ := by
            funext x σ
            unfold KT
            rw [show cmp_ (sg t n (skp t n p1)) (cmp_ x3 s (cmt x2 v r)) x = plu (sg t n (skp t n p1)) (cmp_ x3 s (cmt x2 v r)) x from if_neg hne]
          rw [e1, e2]
        rcases IH with ⟨e, he0, he, hc', hr'⟩ | ⟨p', C', g1, g2, g4, hc', hr'⟩
        · refine Or.inl ⟨e, by omega, he, ?_, ?_⟩
          · intro σ q w l f hT hq h3 h300
            show ∃ a l' f', zfX5_sum_L7 _ _ _ _ _ _ _ _ _ _ = _
            rw [hcs σ q w l f hT hq h3 (by omega), if_neg o1, if_pos o2]
            exact hc' σ q w _ _ hT hq h3 (by simp only [List.length_append]; omega)
          · intro σ s v hR
            obtain ⟨r, hE, -⟩ := hr σ hR
            obtain ⟨v', a, d', hE'⟩ := hr' σ (cmp_ x3 s (cmt x2 v r)) 0 hR
            exact ⟨v', a, d', (hrr σ s v r hR hE).trans hE'⟩
        · refine Or.inr ⟨p', C1 ++ (ops x2 ++ ops x3) ++ C', by omega, g2, by simp only [List.length_append]; omega, ?_, ?_⟩
          · intro σ q w l f hT hq h3 h300
            show zfX5_sum_L7 _ _ _ _ _ _ _ _ _ _ = _
            rw [hcs σ q w l f hT hq h3 (by omega), if_neg o1, if_pos o2]
            refine (hc' σ q w _ _ hT hq h3 (by simp only [List.length_append]; omega)).trans ?_
            rw [wrs_app3]
            simp only [List.length_append, Nat.add_assoc]
          · intro σ s v hR
            obtain ⟨r, hE, hv⟩ := hr σ hR
            obtain ⟨v', hE', hv'⟩ := hr' σ (cmp_ x3 s (cmt x2 v r)) 0 hR
            refine ⟨v', (hrr σ s v r hR hE).trans hE', fun hL hs hvv => ?_⟩
            obtain ⟨a1, a2⟩ := hv hL
            obtain ⟨b1, b2⟩ := hv' hL (cmp_in (cmt_in a2)) (by decide)
            refine ⟨fun st => ?_, b2⟩
            rw [run_app, run_app, run_app, a1]
            unfold pre2
            rw [List.append_assoc, run_t hx2 hvv, run_p hx3]
            have := b1 st
            unfold pre2 at this
            rw [if_neg hne, if_pos rfl] at this
            exact this
      · refine Or.inr ⟨skp t n p1, C1 ++ (ops x2 ++ ops x3), by omega, hp3, by simp only [List.length_append]; omega, ?_, ?_⟩
        · intro σ q w l f hT hq h3 h300
          show zfX5_sum_L7 _ _ _ _ _ _ _ _ _ _ = _
          rw [hcs σ q w l f hT hq h3 (by omega), if_neg o1, if_neg o2, wrs_app f l C1 (ops x2 ++ ops x3)]
          simp only [List.length_append, Nat.add_assoc]
        · intro σ s v hR
          obtain ⟨r, hE, hv⟩ := hr σ hR
          refine ⟨cmp_ x3 s (cmt x2 v r), ?_, fun hL hs hvv => ?_⟩
          · refine (hKT σ s v r hR hE).trans ?_
            rw [r_sum_s hR hp3, skp_skp, if_neg o2]
          · obtain ⟨a1, a2⟩ := hv hL
            refine ⟨fun st => ?_, cmp_in (cmt_in a2)⟩
            rw [run_app, run_app, a1]
            unfold pre2
            rw [List.append_assoc, run_t hx2 hvv, run_p hx3]
theorem sum_rel1 {t : Nat → Int32} {n p d dd : Nat} (L : Rel2 t n p d ((ops (-1)).length + (ops (-1)).length) (pre2 (-1) (-1)) (fun S => zfX5_sum_L7 (fun σ122 => bd2 (zfX3_wrong_46 σ122) (fun r123 σ123 => ck (zbo r123) (some (r123, σ123)))) (zfX5_sum dd) (nI d) (fun σ23 => some (0, σ23)) (fun σ101 => some (1, σ101)) NF (-1) (-1) (nI 0) S) (fun s v S => RB (zfX12_sum dd) (-1) (-1) NF NF s v S)) : Rel1 t n p d (zfX5_sum (dd + 1) (nI d)) (zfX12_sum (dd + 1)) := by
  have hc : ∀ S, zfX5_sum (dd + 1) (nI d) S = zfX5_sum_L7 (fun σ122 => bd2 (zfX3_wrong_46 σ122) (fun r123 σ123 => ck (zbo r123) (some (r123, σ123)))) (zfX5_sum dd) (nI d) (fun σ23 => some (0, σ23)) (fun σ101 => some (1, σ101)) NF (-1) (-1) (nI 0) S := by
    intro S
    conv => lhs; unfold zfX5_sum
    generalize NF = N
    simp only [lt_p, n_0]
  have hr : ∀ S, zfX12_sum (dd + 1) S = RB (zfX12_sum dd) (-1) (-1) NF NF 0 0 S := by
    intro S
    conv => lhs; unfold zfX12_sum
    unfold RB zfX12_term
    generalize NF = N
    simp only [lt_p, bd2_bd2, term_k]
    have e1 : ∀ r57, cmt (-1) 0 r57 = r57 := fun _ => if_pos rfl
    have e2 : KT (zfX12_sum dd) (-1) N 0 = fun x σ => zfX12_sum_L5 (zfX12_sum dd) (fun a b => some (a, b)) N x σ := by
      funext x σ
      unfold KT
      rw [show cmp_ (-1) 0 x = x from if_pos rfl]
    simp only [e1, e2]
  have h0 : (ops (-1)).length = 0 := rfl
  rw [h0] at L
  rcases L with ⟨e, he0, he, hc', hr'⟩ | ⟨p', C, g1, g2, g4, hc', hr'⟩
  · refine Or.inl ⟨e, he0, he, fun σ q w l f hT hq h3 h300 => ?_, fun σ hR => ?_⟩
    · rw [hc]; exact hc' σ q w l f hT hq h3 (by omega)
    · rw [hr]; exact hr' σ 0 0 hR
  · refine Or.inr ⟨p', C, g1, g2, by omega, fun σ q w l f hT hq h3 h300 => ?_, fun σ hR => ?_⟩
    · rw [hc]; exact hc' σ q w l f hT hq h3 (by omega)
    · obtain ⟨v, hE, hv⟩ := hr' σ 0 0 hR
      refine ⟨v, by rw [hr]; exact hE, fun hL => ?_⟩
      obtain ⟨a1, a2⟩ := hv hL (by decide) (by decide)
      exact ⟨fun st => a1 st, a2⟩
theorem sum_rel {t : Nat → Int32} {n : Nat} (ht : ∀ k, k < n → 0 ≤ (t k).toInt ∧ (t k).toInt < 256) (hn : n ≤ 160) : ∀ k dd d, d + k = 6 → k < dd → ∀ p, p ≤ n → Rel1 t n p d (zfX5_sum dd (nI d)) (zfX12_sum dd) := by
  intro k
  induction k with
  | zero =>
    intro dd d hd hk p hp
    obtain ⟨dd, rfl⟩ : ∃ g, dd = g + 1 := ⟨dd - 1, by omega⟩
    have L := sum_loop (zc := zfX5_sum dd) (zr := zfX12_sum dd) (d := d) ht hn (by omega) (fun h => by omega) (n - p) p rfl hp (-1) (-1) 0 NF NF NF (Or.inl rfl) (Or.inl rfl) (by omega) (by unfold NF; omega) (by unfold NF; omega) (by unfold NF; omega)
    exact sum_rel1 L
  | succ k ih =>
    intro dd d hd hk p hp
    obtain ⟨dd, rfl⟩ : ∃ g, dd = g + 1 := ⟨dd - 1, by omega⟩
    have L := sum_loop (zc := zfX5_sum dd) (zr := zfX12_sum dd) (d := d) ht hn (by omega) (fun h p' hp' => ih dd (d + 1) (by omega) (by omega) p' hp') (n - p) p rfl hp (-1) (-1) 0 NF NF NF (Or.inl rfl) (Or.inl rfl) (by omega) (by unfold NF; omega) (by unfold NF; omega) (by unfold NF; omega)
    exact sum_rel1 L
/-! ===== comparisons ===== -/
abbrev isc (x : Int32) : Prop := x = 61 ∨ x = 60 ∨ x = 62
theorem c_isc (x : Int32) : zfX5_isComparison x = 0 ↔ ¬ isc x := by
  unfold zfX5_isComparison isc
  simp only [lt_p]
  by_cases h1 : x = 61 <;> by_cases h2 : x = 60 <;> by_cases h3 : x = 62 <;> simp [h1, h2, h3]
theorem r_isc (x : Int32) : zfX12_isSign x = 0 ↔ ¬ isc x := by
  unfold zfX12_isSign isc
  simp only [lt_p]
  by_cases h1 : x = 61 <;> by_cases h2 : x = 60 <;> by_cases h3 : x = 62 <;> simp [h1, h2, h3]
/-- what the reference answers of a comparison is what the code makes of both -/
theorem jn_cmp {o a b : Int32} (ho : isc o) : (if o = 61 then (if a = b then (1 : Int32) else 0) else if o = 60 then (if b ≤ a then 0 else 1) else if a ≤ b then 0 else 1) = jn o a b := by
  rcases ho with rfl | rfl | rfl
  · rw [jn_eq, if_pos rfl]
  · rw [jn_lt, if_neg (by decide), if_pos rfl]
  · rw [jn_gt, if_neg (by decide), if_neg (by decide)]
/-- a value of a condition -/
def Rel3 (t : Nat → Int32) (n p d x : Nat) (pre : Int32 → Int32 → List Int32) (G : Int32 → Int32 → Prop) (Fc : Mm → Option (Int32 × Mm)) (Fr : Int32 → Int32 → Mm → Option (Int32 × Mm)) : Prop :=
  (∃ e, p ≤ e ∧ e ≤ n ∧ (∀ σ q w l f, CT σ t n → zIsR q → σ 46 3 = nI q → l + (n - p) + x ≤ 300 → ∃ a l' f', Fc (CM σ q (nI p) w (nI l) f) = some (0, CM σ q a (nI e) l' f')) ∧ (∀ σ s v, RT σ t n → G s v → ∃ v' a d', zbo v' ∧ Fr s v (RM σ (nI p) (-1) (nI d)) = some (v', RM σ a (nI e) d'))) ∨
  (∃ p' C, p < p' ∧ p' ≤ n ∧ C.length ≤ p' - p + x ∧ (∀ σ q w l f, CT σ t n → zIsR q → σ 46 3 = nI q → l + (n - p) + x ≤ 300 → Fc (CM σ q (nI p) w (nI l) f) = some (1, CM σ q (nI p') w (nI (l + C.length)) (wrs f l C))) ∧
    (∀ σ s v, RT σ t n → G s v → ∃ v', zbo v' ∧ Fr s v (RM σ (nI p) (-1) (nI d)) = some (v', RM σ (nI p') (-1) (nI d)) ∧ (LO σ → (∀ st, run (lamR σ) C (pre s v ++ st) = v' :: st))))
/-- the class's comparison, its first sum read -/
def cmpC (d : Nat) (σ115 : Mm) : Option (Int32 × Mm) := bd2 (zfX3_sign_46 σ115) (fun r116 σ116 => if (zfX5_isComparison r116) = 0 then (bd2 (zfX3_wrong_46 σ116) (fun r130 σ130 => ck (zbo r130) (some (r130, σ130)))) else bd2 (zfX5_sum RD (nI d) (zst σ116 46 1 ((σ116 46 1) + 1))) (fun r146 σ146 => if r146 = 0 then some (0, σ146) else bd2 (zfX5_put (20000 + r116) σ146) (fun r159 σ159 => if r159 = 0 then some (0, σ159) else some (1, σ159))))
theorem cmp_rel {t : Nat → Int32} {n d : Nat} (ht : ∀ k, k < n → 0 ≤ (t k).toInt ∧ (t k).toInt < 256) (hn : n ≤ 160) (hd : d ≤ 6) {p : Nat} (hp : p ≤ n) :
    Rel3 t n p d 0 (fun s _ => [s]) (fun s v => True) (cmpC d) (fun s _ S => zfX12_compares 1 s S) := by
  have hp1 : p ≤ skp t n p := skp_ge
  have hp2 : skp t n p ≤ n := skp_le hp
  have hrl : ∀ σ s, RT σ t n → zfX12_compares 1 s (RM σ (nI p) (-1) (nI d)) = if isc (sg t n (skp t n p)) then bd2 (zfX12_sum RD (RM σ (nI (skp t n p + 1)) (-1) (nI d))) (fun r53 σ53 => some (jn (sg t n (skp t n p)) s r53, σ53)) else some (0, RM σ (nI (skp t n p)) (nI (skp t n p)) (nI d)) := by
    intro σ s hR
    unfold zfX12_compares
    simp only [lt_p]
    rw [if_neg (by decide), RM_f, if_pos rfl, r_lk hR hp, bd2_some]
    by_cases hi : isc (sg t n (skp t n p))
    · rw [if_neg (fun q => (r_isc _).mp q hi), if_pos hi, RM_at, RM_sa, show nI (skp t n p) + 1 = nI (skp t n p + 1) from n_add _ 1]
      congr 1
      funext r53 σ53
      rw [← jn_cmp hi]
      repeat' split
      all_goals rfl
    · rw [if_pos ((r_isc _).mpr hi), if_neg hi, r_fails, if_pos rfl, bd2_some, ck_t (Or.inl rfl)]
  by_cases hi : isc (sg t n (skp t n p))
  · have hlt : skp t n p < n := Classical.byContradiction fun q => by
      have : sg t n (skp t n p) = -1 := if_neg q
      rw [this] at hi
      revert hi; decide
    have hcl : ∀ σ q w l f, CT σ t n → zIsR q → cmpC d (CM σ q (nI p) w (nI l) f) = bd2 (zfX5_sum RD (nI d) (CM σ q (nI (skp t n p + 1)) w (nI l) f)) (fun r146 σ146 => if r146 = 0 then some (0, σ146) else bd2 (zfX5_put (20000 + sg t n (skp t n p)) σ146) (fun r159 σ159 => if r159 = 0 then some (0, σ159) else some (1, σ159))) := by
      intro σ q w l f hT hq
      unfold cmpC
      rw [c_sg hq hT hp, bd2_some, if_neg (fun q => (c_isc _).mp q hi), CM_p hq, CM_sp hq, show nI (skp t n p) + 1 = nI (skp t n p + 1) from n_add _ 1]
    rcases sum_rel ht hn (6 - d) RD d (by omega) (by unfold RD; omega) (skp t n p + 1) (by omega) with ⟨e, he0, he, hc, hr⟩ | ⟨p', C, g1, g2, g4, hc, hr⟩
    · refine Or.inl ⟨e, by omega, he, ?_, ?_⟩
      · intro σ q w l f hT hq h3 h300
        obtain ⟨a, l', f', hE⟩ := hc σ q w l f hT hq h3 (by omega)
        rw [hcl σ q w l f hT hq, hE, bd2_some, if_pos rfl]
        exact ⟨_, _, _, rfl⟩
      · intro σ s v hR _
        obtain ⟨v', a, d', hE⟩ := hr σ hR
        refine ⟨jn (sg t n (skp t n p)) s v', a, d', ?_, (hrl σ s hR).trans ?_⟩
        · rw [← jn_cmp hi]; unfold zbo; repeat' split
          all_goals decide
        · rw [if_pos hi, hE, bd2_some]
    · refine Or.inr ⟨p', C ++ [20000 + sg t n (skp t n p)], by omega, g2, by simp only [List.length_append, List.length_cons, List.length_nil]; omega, ?_, ?_⟩
      · intro σ q w l f hT hq h3 h300
        rw [hcl σ q w l f hT hq, hc σ q w l f hT hq h3 (by omega), bd2_some, if_neg (by decide), c_put hq h3 (by omega), bd2_some, if_neg (by decide), wrs_app]
        simp only [List.length_append, List.length_cons, List.length_nil, Nat.add_assoc, Nat.zero_add]
        rfl
      · intro σ s v hR _
        obtain ⟨v', hE, hv⟩ := hr σ hR
        refine ⟨jn (sg t n (skp t n p)) s v', ?_, (hrl σ s hR).trans ?_, fun hL st => ?_⟩
        · rw [← jn_cmp hi]; unfold zbo; repeat' split
          all_goals decide
        · rw [if_pos hi, hE, bd2_some]
        · rw [run_app, (hv hL).1]
          show stp _ _ (v' :: s :: st) = _
          unfold stp
          have h1 : ¬ 20000 + sg t n (skp t n p) < 20000 := by rcases hi with h | h | h <;> rw [h] <;> decide
          have h2 : ¬ 20000 + sg t n (skp t n p) = 20033 := by rcases hi with h | h | h <;> rw [h] <;> decide
          have h59 : ¬ (20000 + sg t n (skp t n p) = 20059 ∨ 20000 + sg t n (skp t n p) = 20063) := by rcases hi with h | h | h <;> rw [h] <;> decide
          rw [if_neg h1, if_neg h59]
          simp only
          rw [if_neg h2, show 20000 + sg t n (skp t n p) - 20000 = sg t n (skp t n p) by grind]
  · refine Or.inl ⟨skp t n p, hp1, hp2, ?_, ?_⟩
    · intro σ q w l f hT hq h3 h300
      unfold cmpC
      rw [c_sg hq hT hp, bd2_some, if_pos ((c_isc _).mpr hi), c_wrong hq, bd2_some, ck_t (Or.inl rfl)]
      exact ⟨_, _, _, rfl⟩
    · intro σ s v hR _
      exact ⟨0, _, _, Or.inl rfl, (hrl σ s hR).trans (if_neg hi)⟩
theorem r_goes {σ : Mm} {p d : Nat} (hd : d ≤ 6) : zfX12_goesIn (RM σ (nI p) (-1) (nI d)) = if d = 6 then some (0, RM σ (nI p) (nI p) (nI d)) else some (1, RM σ (nI (p + 1)) (-1) (nI (d + 1))) := by
  unfold zfX12_goesIn
  by_cases h : d = 6
  · rw [RM_d, h, if_pos (by decide), if_pos rfl, r_fails, if_pos rfl, bd2_some, ck_t (Or.inl rfl)]
  · rw [RM_d, if_neg (by rw [show (6 : Int32) = nI 6 from rfl, n_eq (by omega) (by decide)]; omega), if_neg h]
    simp only [lt_p]
    rw [RM_sd, RM_at, RM_sa, show nI p + 1 = nI (p + 1) from n_add _ 1, show nI d + 1 = nI (d + 1) from n_add _ 1]
theorem r_cmp_f {σ : Mm} {s a f d : Int32} (hf : f ≠ -1) : zfX12_compares 1 s (RM σ a f d) = some (0, RM σ a f d) := by
  unfold zfX12_compares
  simp only [lt_p]
  rw [if_neg (by decide), RM_f, if_neg hf]
theorem r_cmp0 {S : Mm} : zfX12_compares 0 0 S = bd2 (zfX12_sum RD S) (fun r9 σ9 => zfX12_compares 1 r9 σ9) := by
  unfold zfX12_compares
  generalize RD = N
  simp only [lt_p]
  rw [if_pos trivial]
  congr 1
/-- a sum and then a comparison -/
theorem cmp0_rel {t : Nat → Int32} {n d : Nat} (ht : ∀ k, k < n → 0 ≤ (t k).toInt ∧ (t k).toInt < 256) (hn : n ≤ 160) (hd : d ≤ 6) {p : Nat} (hp : p ≤ n) :
    Rel3 t n p d 0 (fun _ _ => []) (fun s v => True) (fun S => bd2 (zfX5_sum RD (nI d) S) (fun r107 σ107 => if r107 = 0 then some (0, σ107) else cmpC d σ107)) (fun _ _ S => zfX12_compares 0 0 S) := by
  rcases sum_rel ht hn (6 - d) RD d (by omega) (by unfold RD; omega) p hp with ⟨e, he0, he, hc, hr⟩ | ⟨p', C, g1, g2, g4, hc, hr⟩
  · refine Or.inl ⟨e, he0, he, ?_, ?_⟩
    · intro σ q w l f hT hq h3 h300
      obtain ⟨a, l', f', hE⟩ := hc σ q w l f hT hq h3 (by omega)
      refine ⟨a, l', f', ?_⟩
      show bd2 (zfX5_sum RD (nI d) _) _ = _
      rw [hE, bd2_some, if_pos rfl]
    · intro σ s v hR _
      obtain ⟨v', a, d', hE⟩ := hr σ hR
      refine ⟨0, a, d', Or.inl rfl, r_cmp0.trans ?_⟩
      rw [hE, bd2_some, r_cmp_f (n_ne1 (by omega))]
  · rcases cmp_rel ht hn hd g2 with ⟨e, he0, he, hc', hr'⟩ | ⟨p2, C', k1, k2, k4, hc', hr'⟩
    · refine Or.inl ⟨e, by omega, he, ?_, ?_⟩
      · intro σ q w l f hT hq h3 h300
        obtain ⟨a, l', f', hE⟩ := hc' σ q w (l + C.length) (wrs f l C) hT hq h3 (by omega)
        refine ⟨a, l', f', ?_⟩
        show bd2 (zfX5_sum RD (nI d) _) _ = _
        rw [hc σ q w l f hT hq h3 (by omega), bd2_some, if_neg (by decide), hE]
      · intro σ s v hR _
        obtain ⟨r, hE, -⟩ := hr σ hR
        obtain ⟨v', a, d', hb, hE'⟩ := hr' σ r 0 hR trivial
        refine ⟨v', a, d', hb, r_cmp0.trans ?_⟩
        rw [hE, bd2_some]
        exact hE'
    · refine Or.inr ⟨p2, C ++ C', by omega, k2, by simp only [List.length_append]; omega, ?_, ?_⟩
      · intro σ q w l f hT hq h3 h300
        show bd2 (zfX5_sum RD (nI d) _) _ = _
        rw [hc σ q w l f hT hq h3 (by omega), bd2_some, if_neg (by decide), hc' σ q w _ _ hT hq h3 (by omega), wrs_app]
        simp only [List.length_append, Nat.add_assoc]
      · intro σ s v hR _
        obtain ⟨r, hE, hv⟩ := hr σ hR
        obtain ⟨v', hb, hE', hv'⟩ := hr' σ r 0 hR trivial
        refine ⟨v', hb, r_cmp0.trans ?_, fun hL st => ?_⟩
        · rw [hE, bd2_some]
          exact hE'
        · rw [run_app]
          show run _ C' (run _ C st) = _
          rw [(hv hL).1 st]
          exact hv' hL st
