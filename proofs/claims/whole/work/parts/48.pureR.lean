/-! ===== the reference reads items ===== -/
theorem i64_lt {a b : Int32} : a.toInt64 < b.toInt64 ↔ a < b := by
  rw [Int64.lt_iff_toInt_lt, Int32.lt_iff_toInt_lt, Int32.toInt_toInt64, Int32.toInt_toInt64]
theorem r_isIn {x a b : Int32} : zfX12_isIn x.toInt64 a.toInt64 b.toInt64 = if x < a ∨ b < x then 0 else 1 := by
  unfold zfX12_isIn
  simp only [lt_p, lg_cmp_lt, lg_cmp_gt, i64_lt]
  by_cases h1 : x < a
  · rw [if_pos h1, if_pos (Or.inl h1)]
  · rw [if_neg h1]
    by_cases h2 : b < x
    · rw [if_pos h2, if_pos (Or.inr h2)]
    · rw [if_neg h2, if_neg (fun q => q.elim h1 h2)]
theorem r_here {σ : Mm} {t : Nat → Int32} {n p : Nat} (h : RT σ t n) (hat : σ 703 10 = nI p) (hp : p < n) : zfX12_here σ = some (t p) := by
  have hn := h.n
  unfold zfX12_here
  rw [if_neg (by rw [hat, hn.1, n_le (by omega) (by omega)]; omega)]
  obtain ⟨v, v1, v2, v3, v4⟩ := h.get hp hat (fun w => some (w &&& 255))
  rw [v4, v1]
theorem r_item {σ : Mm} {t : Nat → Int32} {n p q1 : Nat} {x2 lo hi d : Int32} (h : RT σ t n) (hp : p < n) : zfX12_readItem q1 x2 lo hi (RM σ (nI p) (-1) d) =
    match nm2 t n (skp t n (p + 1)) with
    | .error e => some (RM σ (nI e) (nI e) d)
    | .ok (p3, v) => if v < lo ∨ hi < v then some (RM σ (nI (p3 - 1)) (nI (p3 - 1)) d) else ck (inb x2 (zs q1).2) (some (zst (RM σ (nI p3) (-1) d) q1 (ix x2) v)) := by
  have hq2 : skp t n (p + 1) ≤ n := skp_le (by omega)
  unfold zfX12_readItem
  rw [lt_p, RM_at, RM_sa, show nI p + 1 = nI (p + 1) from n_add _ 1, r_lk h (by omega), bd2_some]
  generalize skp t n (p + 1) = q at hq2 ⊢
  rw [r_isDigit (h.rm _ _ _) RM_at hq2 (t := t), bd_some]
  unfold nm2
  by_cases d1 : isd t n q
  case neg => rw [if_neg d1, if_neg d1, if_pos rfl, r_fails, if_pos rfl, bd2_some]
  case pos =>
  rw [if_pos d1, if_pos d1, if_neg (by decide), r_here (h.rm _ _ _) RM_at d1.1, bd_some]
  simp only [lt_p]
  rw [RM_at, RM_sa, show nI q + 1 = nI (q + 1) from n_add _ 1, r_isDigit (h.rm _ _ _) RM_at (by have := d1.1; omega) (t := t), bd_some]
  conv => rhs; unfold num
  rw [if_pos (show q < n ∧ ¬ (t q < 48 ∨ 57 < t q) from d1)]
  dsimp only
  have z0 : (0 : Int32) * 10 + (t q - 48) = t q - 48 := by grind
  rw [z0]
  have fin : ∀ (p3 : Nat) (v : Int32), 0 < p3 → p3 ≤ n → (bd (zfX12_isDigit (RM σ (nI p3) (-1) d)) (fun r81 => if r81 = 0 then (if (zfX12_isIn (Int32.toInt64 v) (Int32.toInt64 lo) (Int32.toInt64 hi)) = 0 then bd2 (zfX12_fails (zst (RM σ (nI p3) (-1) d) 703 10 (((RM σ (nI p3) (-1) d) 703 10) - 1))) (fun r118 σ118 => some σ118) else (ck (inb x2 (zs q1).2) (some (zst (RM σ (nI p3) (-1) d) q1 (ix x2) v)))) else (bd2 (zfX12_fails (RM σ (nI p3) (-1) d)) (fun r88 σ88 => some σ88)))) =
      if isd t n p3 then some (RM σ (nI p3) (nI p3) d) else if v < lo ∨ hi < v then some (RM σ (nI (p3 - 1)) (nI (p3 - 1)) d) else ck (inb x2 (zs q1).2) (some (zst (RM σ (nI p3) (-1) d) q1 (ix x2) v)) := by
    intro p3 v h0 h3
    rw [r_isDigit (h.rm _ _ _) RM_at h3 (t := t), bd_some]
    by_cases d3 : isd t n p3
    · rw [if_pos d3, if_pos d3, if_neg (by decide), r_fails, if_pos rfl, bd2_some]
    · rw [if_neg d3, if_neg d3, if_pos rfl, r_isIn]
      by_cases c : v < lo ∨ hi < v
      · rw [if_pos c, if_pos c, if_pos rfl, RM_at, RM_sa, show nI p3 - 1 = nI (p3 - 1) by rw [show (1 : Int32) = nI 1 from rfl, n_sub (by omega)], r_fails, if_pos rfl, bd2_some]
      · rw [if_neg c, if_neg c, if_neg (by decide)]
  by_cases d2 : isd t n (q + 1)
  · rw [if_pos d2, if_neg (show ¬ (1 : Int32) = 0 by decide), r_here (h.rm _ _ _) RM_at d2.1, bd_some]
    conv => rhs; unfold num
    rw [if_pos (show q + 1 < n ∧ ¬ (t (q + 1) < 48 ∨ 57 < t (q + 1)) from d2)]
    dsimp only
    rw [RM_at, RM_sa, show nI (q + 1) + 1 = nI (q + 1 + 1) from n_add _ 1, fin (q + 1 + 1) _ (by omega) (by have := d2.1; omega)]
    conv => rhs; unfold num
    rw [show 10 * (t q - 48) + t (q + 1) - 48 = (t q - 48) * 10 + (t (q + 1) - 48) by grind]
    by_cases d3 : isd t n (q + 1 + 1)
    · rw [if_pos d3, if_pos (show q + 1 + 1 < n ∧ ¬ (t (q + 1 + 1) < 48 ∨ 57 < t (q + 1 + 1)) from d3)]
    · rw [if_neg d3, if_neg (show ¬ (q + 1 + 1 < n ∧ ¬ (t (q + 1 + 1) < 48 ∨ 57 < t (q + 1 + 1))) from d3)]
  · rw [if_neg d2, if_pos rfl]
    conv => rhs; unfold num
    rw [if_neg (show ¬ (q + 1 < n ∧ ¬ (t (q + 1) < 48 ∨ 57 < t (q + 1))) from d2), bd_some, if_pos rfl, r_isIn]
    dsimp only
    by_cases c : t q - 48 < lo ∨ hi < t q - 48
    · rw [if_pos c, if_pos c, if_pos rfl, RM_at, RM_sa, show nI (q + 1) - 1 = nI (q + 1 - 1) by rw [show (1 : Int32) = nI 1 from rfl, n_sub (by omega)], r_fails, if_pos rfl, bd2_some]
    · rw [if_neg c, if_neg c, if_neg (by decide)]
/-- the letter that a kind of clause begins with -/
def kch (κ : Nat) : Int32 := if κ = 0 then 115 else if κ = 1 then 98 else 108
theorem r_placeOf {κ : Nat} {x : Int32} (hκ : κ < 3) : zfX12_placeOf (3 + κ) x = some (match itG κ x with | some g => nI (g - fi κ) | none => -1) := by
  unfold zfX12_placeOf
  obtain ⟨m, hm⟩ : ∃ m, NF = m + 1 + 1 + 1 + 1 := ⟨19996, rfl⟩
  rw [hm]
  simp only [lt_p]
  generalize hk : (fun (x2_19 : Int32) => some x2_19) = k19
  generalize hk2 : (fun (_ : Unit) => some (-1 : Int32)) = k27
  have g : ∀ q e i fu, zsl q = nI e → zLen.getD q 0 = e → i < e → e ≤ 8 → zfX12_placeOf_L2 q k27 x k19 (fu + 1) (nI i) = if zsc q i = x then k19 (nI i) else zfX12_placeOf_L2 q k27 x k19 fu (nI (i + 1)) := by
    intro q e i fu he1 he2 hi he
    conv => lhs; unfold zfX12_placeOf_L2
    rw [he1, he2, if_neg (by rw [n_le (by omega) (by omega)]; omega), ck_t ((n_in (by omega)).mpr (by omega)), n_ix (by omega), lt_p, show nI i + 1 = nI (i + 1) from n_add _ 1]
  have ge : ∀ q e fu, zsl q = nI e → e ≤ 8 → zfX12_placeOf_L2 q k27 x k19 (fu + 1) (nI e) = k27 () := by
    intro q e fu he1 he
    unfold zfX12_placeOf_L2
    rw [he1, if_pos (by rw [n_le (by omega) (by omega)]; omega)]
  have : κ = 0 ∨ κ = 1 ∨ κ = 2 := by omega
  unfold itG
  rw [← n_0]
  rcases this with rfl | rfl | rfl
  · rw [if_pos rfl]
    rw [g (3 + 0) 3 0 _ rfl rfl (by omega) (by omega), g (3 + 0) 3 1 _ rfl rfl (by omega) (by omega), g (3 + 0) 3 2 _ rfl rfl (by omega) (by omega), ge (3 + 0) 3 _ rfl (by omega), ← hk, ← hk2, show zsc (3 + 0) 0 = 110 by decide, show zsc (3 + 0) 1 = 99 by decide, show zsc (3 + 0) 2 = 114 by decide]
    by_cases h0 : x = 110
    · rw [if_pos h0.symm, if_pos h0]; rfl
    · rw [if_neg (fun e => h0 e.symm), if_neg h0]
      by_cases h1 : x = 99
      · rw [if_pos h1.symm, if_pos h1]; rfl
      · rw [if_neg (fun e => h1 e.symm), if_neg h1]
        by_cases h2 : x = 114
        · rw [if_pos h2.symm, if_pos h2]; rfl
        · rw [if_neg (fun e => h2 e.symm), if_neg h2]
          try rfl
  · rw [if_neg (by decide), if_pos rfl]
    rw [g (3 + 1) 3 0 _ rfl rfl (by omega) (by omega), g (3 + 1) 3 1 _ rfl rfl (by omega) (by omega), g (3 + 1) 3 2 _ rfl rfl (by omega) (by omega), ge (3 + 1) 3 _ rfl (by omega), ← hk, ← hk2, show zsc (3 + 1) 0 = 118 by decide, show zsc (3 + 1) 1 = 109 by decide, show zsc (3 + 1) 2 = 119 by decide]
    by_cases h0 : x = 118
    · rw [if_pos h0.symm, if_pos h0]; rfl
    · rw [if_neg (fun e => h0 e.symm), if_neg h0]
      by_cases h1 : x = 109
      · rw [if_pos h1.symm, if_pos h1]; rfl
      · rw [if_neg (fun e => h1 e.symm), if_neg h1]
        by_cases h2 : x = 119
        · rw [if_pos h2.symm, if_pos h2]; rfl
        · rw [if_neg (fun e => h2 e.symm), if_neg h2]
          try rfl
  · rw [if_neg (by decide), if_neg (by decide)]
    rw [g (3 + 2) 2 0 _ rfl rfl (by omega) (by omega), g (3 + 2) 2 1 _ rfl rfl (by omega) (by omega), ge (3 + 2) 2 _ rfl (by omega), ← hk, ← hk2, show zsc (3 + 2) 0 = 113 by decide, show zsc (3 + 2) 1 = 102 by decide]
    by_cases h0 : x = 113
    · rw [if_pos h0.symm, if_pos h0]; rfl
    · rw [if_neg (fun e => h0 e.symm), if_neg h0]
      by_cases h1 : x = 102
      · rw [if_pos h1.symm, if_pos h1]; rfl
      · rw [if_neg (fun e => h1 e.symm), if_neg h1]
        try rfl
theorem r_usual {κ j : Nat} (hκ : κ < 3) (hj : j < ln κ) : zfX12_usual (kch κ) (nI j) = zus (fi κ + j) := by
  have : κ = 0 ∨ κ = 1 ∨ κ = 2 := by omega
  rcases this with rfl | rfl | rfl
  · have hj : j < 3 := hj
    have : j = 0 ∨ j = 1 ∨ j = 2 := by omega
    rcases this with rfl | rfl | rfl <;> decide
  · have hj : j < 3 := hj
    have : j = 0 ∨ j = 1 ∨ j = 2 := by omega
    rcases this with rfl | rfl | rfl <;> decide
  · have hj : j < 2 := hj
    have : j = 0 ∨ j = 1 := by omega
    rcases this with rfl | rfl <;> decide
theorem r_most {κ j : Nat} (hκ : κ < 3) (hj : j < ln κ) : zfX12_mostOf (kch κ) (nI j) = zhi (fi κ + j) := by
  have : κ = 0 ∨ κ = 1 ∨ κ = 2 := by omega
  rcases this with rfl | rfl | rfl
  · have hj : j < 3 := hj
    have : j = 0 ∨ j = 1 ∨ j = 2 := by omega
    rcases this with rfl | rfl | rfl <;> decide
  · have hj : j < 3 := hj
    have : j = 0 ∨ j = 1 ∨ j = 2 := by omega
    rcases this with rfl | rfl | rfl <;> decide
  · have hj : j < 2 := hj
    have : j = 0 ∨ j = 1 := by omega
    rcases this with rfl | rfl <;> decide
theorem r_least {κ j : Nat} {β : Type} {a b : β} (hκ : κ < 3) (hj : j < ln κ) {f : Int32 → β} : (if kch κ = 98 then (if nI j = 1 then f 1 else f 0) else f 0) = f (zlo (fi κ + j)) := by
  have : κ = 0 ∨ κ = 1 ∨ κ = 2 := by omega
  rcases this with rfl | rfl | rfl
  · have hj : j < 3 := hj
    have : j = 0 ∨ j = 1 ∨ j = 2 := by omega
    rcases this with rfl | rfl | rfl <;> rw [if_neg (by decide)] <;> rfl
  · have hj : j < 3 := hj
    have : j = 0 ∨ j = 1 ∨ j = 2 := by omega
    rcases this with rfl | rfl | rfl
    · rw [if_pos (by decide), if_neg (by decide)]; rfl
    · rw [if_pos (by decide), if_pos (by decide)]; rfl
    · rw [if_pos (by decide), if_neg (by decide)]; rfl
  · have hj : j < 2 := hj
    have : j = 0 ∨ j = 1 := by omega
    rcases this with rfl | rfl <;> rw [if_neg (by decide)] <;> rfl
theorem hasb : ∀ b : Fin 8, ∀ j : Fin 3, zfX12_has (nI b.val) (nI j.val) = 0 → ∃ c : Fin 8, (nI b.val) ||| ((1 : Int32) <<< (nI j.val &&& 31)) = nI c.val ∧ ∀ k : Fin 3, zfX12_has (nI c.val) (nI k.val) = if k = j then 1 else zfX12_has (nI b.val) (nI k.val) := by decide
