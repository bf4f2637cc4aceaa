/-- said of a named value, in a form that the kernel needn't unfold (simp only [lt] makes it unfold whole loops) -/
theorem lt_p {α : Sort _} {β : Sort _} (e : α) (k : α → β) : lt e k = k e := Eq.trans rfl rfl
/-! ===== small numbers ===== -/
theorem n_add (a b : Nat) : nI a + nI b = nI (a + b) := (Int32.ofNat_add a b).symm
theorem n_mul (a b : Nat) : nI a * nI b = nI (a * b) := (Int32.ofNat_mul a b).symm
theorem n_ti {a : Nat} (h : a < 2147483648) : (nI a).toInt = a := by
  unfold nI; rw [Int32.toInt_ofNat_of_lt (by simpa using h)]
theorem n_ix {a : Nat} (h : a < 2147483648) : ix (nI a) = a := by
  unfold ix Int32.toNatClampNeg; rw [n_ti h]; simp
theorem n_in {a n : Nat} (ha : a < 2147483648) : inb (nI a) n ↔ a < n := by
  unfold inb; rw [n_ti ha]; omega
theorem n_le {a b : Nat} (ha : a < 2147483648) (hb : b < 2147483648) : nI a ≤ nI b ↔ a ≤ b := by
  rw [Int32.le_iff_toInt_le, n_ti ha, n_ti hb]; omega
theorem n_lt {a b : Nat} (ha : a < 2147483648) (hb : b < 2147483648) : nI a < nI b ↔ a < b := by
  rw [Int32.lt_iff_toInt_lt, n_ti ha, n_ti hb]; omega
theorem n_eq {a b : Nat} (ha : a < 2147483648) (hb : b < 2147483648) : nI a = nI b ↔ a = b := by
  rw [← Int32.toInt_inj, n_ti ha, n_ti hb]; omega
theorem n_sub {a b : Nat} (h : b ≤ a) : nI a - nI b = nI (a - b) := by
  have : nI (a - b) + nI b = nI a := by rw [n_add]; congr 1; omega
  rw [← this]; grind
theorem n_neg (a : Nat) : nI (a + 1) + (-1) = nI a := by rw [← n_add]; show nI a + 1 + (-1) = nI a; grind
theorem n_0 : nI 0 = 0 := rfl
theorem n_1 : nI 1 = 1 := rfl
theorem n_ne1 {a : Nat} (h : a < 2147483648) : nI a ≠ -1 := by
  intro e
  have := congrArg Int32.toInt e
  rw [n_ti h] at this
  have e2 : (-1 : Int32).toInt = -1 := by decide
  omega
theorem n_nlt0 {a : Nat} (h : a < 2147483648) : ¬ nI a < 0 := by
  rw [show (0 : Int32) = nI 0 from rfl, n_lt h (by decide)]; omega
/-- every int that isn't below 0 is one -/
theorem n_of {x : Int32} (h : 0 ≤ x.toInt) : x = nI (ix x) := by
  rw [← Int32.toInt_inj]
  have h2 := Int32.toInt_lt x
  rw [n_ti (by unfold ix Int32.toNatClampNeg; omega)]
  unfold ix Int32.toNatClampNeg; omega
theorem n_of' {x : Int32} (h : ¬ x < 0) : x = nI (ix x) := n_of (by rw [Int32.lt_iff_toInt_lt] at h; have : (0:Int32).toInt = 0 := rfl; omega)
theorem n_zmin {a b : Nat} (ha : a < 2147483648) (hb : b < 2147483648) : zmin (nI a) (nI b) = nI (min a b) := by
  unfold zmin; simp only [n_lt hb ha]; split <;> congr 1 <;> omega
theorem n_zmax {a b : Nat} (ha : a < 2147483648) (hb : b < 2147483648) : zmax (nI a) (nI b) = nI (max a b) := by
  unfold zmax; simp only [n_lt ha hb]; split <;> congr 1 <;> omega
theorem ix_b {x : Int32} : ix x < 2147483648 := by
  have h2 := Int32.toInt_lt x
  unfold ix Int32.toNatClampNeg; omega
/-! ===== rows ===== -/
theorem upd_s {f : Nat → Int32} {k : Nat} {v : Int32} : upd f k v k = v := if_pos rfl
theorem upd_n {f : Nat → Int32} {k j : Nat} {v : Int32} (h : j ≠ k) : upd f k v j = f j := if_neg h
theorem zst_a {σ : Mm} {c k a j : Nat} {v : Int32} : zst σ c k v a j = if a = c ∧ j = k then v else σ a j := by
  unfold zst upd
  by_cases h : a = c <;> by_cases h2 : j = k <;> simp [h, h2]
/-! ===== what must come ===== -/
def Ok {α : Type} (o : Option α) (Q : α → Prop) : Prop := ∃ a, o = some a ∧ Q a
theorem ok_s {α : Type} {a : α} {Q : α → Prop} : Ok (some a) Q ↔ Q a := ⟨fun ⟨_, h, q⟩ => (Option.some.inj h) ▸ q, fun q => ⟨a, rfl, q⟩⟩
theorem ok_lt {α : Sort _} {β : Type} {e : α} {k : α → Option β} {Q : β → Prop} : Ok (lt e k) Q ↔ Ok (k e) Q := Iff.rfl
theorem ok_ck {β : Type} {c : Prop} [Decidable c] {o : Option β} {Q : β → Prop} : Ok (ck c o) Q ↔ c ∧ Ok o Q := by
  unfold ck
  by_cases h : c
  · simp [h]
  · simp [h, Ok]
theorem ok_bd {α β : Type} {o : Option α} {k : α → Option β} {Q : β → Prop} : Ok (bd o k) Q ↔ Ok o (fun a => Ok (k a) Q) := by
  cases o with
  | none => simp [Ok, bd]
  | some x => simp [ok_s, bd]
theorem ok_bd2 {α β : Type} {o : Option (α × Mm)} {k : α → Mm → Option β} {Q : β → Prop} : Ok (bd2 o k) Q ↔ Ok o (fun a => Ok (k a.1 a.2) Q) := by
  cases o with
  | none => simp [Ok, bd2]
  | some x => simp [ok_s, bd2]
theorem ok_if {β : Type} {c : Prop} [Decidable c] {o o2 : Option β} {Q : β → Prop} : Ok (if c then o else o2) Q ↔ (c → Ok o Q) ∧ (¬ c → Ok o2 Q) := by
  by_cases h : c <;> simp [h]
theorem ok_mono {α : Type} {o : Option α} {P Q : α → Prop} (h : Ok o P) (hq : ∀ a, P a → Q a) : Ok o Q := let ⟨a, e, p⟩ := h; ⟨a, e, hq a p⟩
theorem ok_and {α : Type} {o : Option α} {P Q : α → Prop} (h : Ok o P) (h2 : Ok o Q) : Ok o (fun a => P a ∧ Q a) := by
  obtain ⟨a, e, p⟩ := h; obtain ⟨b, e2, q⟩ := h2
  obtain rfl := Option.some.inj (e.symm.trans e2)
  exact ⟨a, e, p, q⟩
/-- a loop: by what is left of it; at each turn it ends as wanted, or goes on with less left -/
theorem ok_loop {S β : Type} {F : Nat → S → Option β} {Q : β → Prop} (I : Nat → S → Prop)
    (step : ∀ m fu s, I m s → (∀ m' s', m' < m → I m' s' → Ok (F fu s') Q) → Ok (F (fu + 1) s) Q) :
    ∀ m fu s, I m s → m < fu → Ok (F fu s) Q := by
  intro m
  induction m using Nat.strongRecOn with
  | _ m ih =>
    intro fu s hI hf
    cases fu with
    | zero => omega
    | succ fu => exact step m fu s hI (fun m' s' h h' => ih m' h fu s' h' (by omega))
/-- a loop that counts up to n -/
theorem ok_up {S β : Type} {F : Nat → S → Option β} {Q : β → Prop} (n : Nat) (I : Nat → S → Prop)
    (step : ∀ i fu s, i < n → I i s → (∀ s', I (i + 1) s' → Ok (F fu s') Q) → Ok (F (fu + 1) s) Q)
    (done : ∀ fu s, I n s → Ok (F (fu + 1) s) Q) : ∀ i fu s, I i s → i ≤ n → n - i < fu → Ok (F fu s) Q := by
  intro i fu s hI hi hf
  refine ok_loop (F := F) (fun m s => ∃ i, i ≤ n ∧ m = n - i ∧ I i s) ?_ (n - i) fu s ⟨i, hi, rfl, hI⟩ hf
  rintro m fu s ⟨i, hi, rfl, hI⟩ hk
  by_cases h : i = n
  · subst h; exact done fu s hI
  · exact step i fu s (by omega) hI (fun s' h' => hk (n - (i + 1)) s' (by omega) ⟨i + 1, by omega, rfl, h'⟩)
theorem nf5 : ∃ m, NF = m + 5 := ⟨19995, rfl⟩
def byt (x : Int32) (s : Int32) : Int32 := (x >>> s) &&& 255
def bys (x : Int32) : List Int32 := [byt x 24, byt x 16, byt x 8, byt x 0].filter (fun b => decide (b ≠ 0))
theorem bys_len (x : Int32) : (bys x).length ≤ 4 := by
  unfold bys; exact List.length_filter_le _ _
theorem c_bytes (x : Int32) : zfX11_bytesIn x = some (nI (bys x).length) := by
  unfold zfX11_bytesIn bys
  obtain ⟨m, hm⟩ := nf5
  rw [hm]
  simp only [lt, zfX11_bytesIn_L5]
  simp only [show ¬ ((24:Int32) < 0) by decide, show (24:Int32) &&& 31 = 24 by decide, show (24:Int32) + (-8) = 16 by decide, show ¬ ((16:Int32) < 0) by decide, show (16:Int32) &&& 31 = 16 by decide, show (16:Int32) + (-8) = 8 by decide, show ¬ ((8:Int32) < 0) by decide, show (8:Int32) &&& 31 = 8 by decide, show (8:Int32) + (-8) = 0 by decide, show ¬ ((0:Int32) < 0) by decide, show (0:Int32) &&& 31 = 0 by decide, show (0:Int32) + (-8) = -8 by decide, show ((-8:Int32) < 0) = True by decide, if_false, if_true]
  unfold byt
  generalize (x >>> 24) &&& 255 = a
  generalize (x >>> 16) &&& 255 = b
  generalize (x >>> 8) &&& 255 = c
  generalize (x >>> 0) &&& 255 = d
  by_cases h1 : a = 0 <;> by_cases h2 : b = 0 <;> by_cases h3 : c = 0 <;> by_cases h4 : d = 0 <;> simp [h1, h2, h3, h4, nI]
theorem r_bytes (x : Int32) : zfX12_bytesIn x = some (nI (bys x).length) := by
  unfold zfX12_bytesIn bys
  obtain ⟨m, hm⟩ := nf5
  rw [hm]
  simp only [lt, zfX12_bytesIn_L5]
  simp only [show ¬ ((24:Int32) < 0) by decide, show (24:Int32) &&& 31 = 24 by decide, show (24:Int32) + (-8) = 16 by decide, show ¬ ((16:Int32) < 0) by decide, show (16:Int32) &&& 31 = 16 by decide, show (16:Int32) + (-8) = 8 by decide, show ¬ ((8:Int32) < 0) by decide, show (8:Int32) &&& 31 = 8 by decide, show (8:Int32) + (-8) = 0 by decide, show ¬ ((0:Int32) < 0) by decide, show (0:Int32) &&& 31 = 0 by decide, show (0:Int32) + (-8) = -8 by decide, show ((-8:Int32) < 0) = True by decide, if_false, if_true]
  unfold byt
  generalize (x >>> 24) &&& 255 = a
  generalize (x >>> 16) &&& 255 = b
  generalize (x >>> 8) &&& 255 = c
  generalize (x >>> 0) &&& 255 = d
  by_cases h1 : a = 0 <;> by_cases h2 : b = 0 <;> by_cases h3 : c = 0 <;> by_cases h4 : d = 0 <;> simp [h1, h2, h3, h4, nI]
/-- a list put down in a row from n on -/
def wrs (f : Nat → Int32) (n : Nat) : List Int32 → (Nat → Int32)
  | [] => f
  | b :: L => wrs (upd f n b) (n + 1) L
theorem wrs_app (f : Nat → Int32) (n : Nat) (L M : List Int32) : wrs f n (L ++ M) = wrs (wrs f n L) (n + L.length) M := by
  induction L generalizing f n with
  | nil => rfl
  | cons b L ih => simp only [List.cons_append, wrs, List.length_cons]; rw [ih]; congr 1; omega
/-- a row and how many of it are in use -/
def TA (a i b : Nat) (σ0 σ : Mm) (n : Nat) (f : Nat → Int32) : Prop := σ a i = nI n ∧ σ b = f ∧ (∀ c, c ≠ a → c ≠ b → σ c = σ0 c) ∧ ∀ k, k ≠ i → σ a k = σ0 a k
theorem TA.step {a i b : Nat} (hab : a ≠ b) {σ0 σ : Mm} {n : Nat} {f : Nat → Int32} (h : TA a i b σ0 σ n f) (v : Int32) : TA a i b σ0 (zst (zst σ b n v) a i (zst σ b n v a i + 1)) (n + 1) (upd f n v) := by
  obtain ⟨h1, h2, h3, h4⟩ := h
  refine ⟨?_, ?_, fun c hc hb => ?_, fun k hk => ?_⟩
  · rw [zst_s, upd_s, zst_n hab, h1, ← n_add]; rfl
  · rw [zst_n (Ne.symm hab), zst_s, h2]
  · rw [zst_n hc, zst_n hb]; exact h3 c hc hb
  · rw [zst_s, upd_n hk, zst_n hab]; exact h4 k hk
theorem c_turn {k : Mm → Option Mm} {x s : Int32} {fu : Nat} {σ0 σ : Mm} {n : Nat} {f : Nat → Int32} {Q : Mm → Prop} (s2 : Int32) (he : s + (-8) = s2) (hs : ¬ s < 0) (hs2 : s &&& 31 = s) (h : TA 1 1 2 σ0 σ n f) (hn : byt x s ≠ 0 → n < 160)
    (hk : ∀ σ', TA 1 1 2 σ0 σ' (n + ([byt x s].filter (fun b => decide (b ≠ 0))).length) (wrs f n ([byt x s].filter (fun b => decide (b ≠ 0)))) → Ok (zfX9_add_L3 k x fu s2 σ') Q) : Ok (zfX9_add_L3 k x (fu + 1) s σ) Q := by
  subst he
  unfold zfX9_add_L3
  rw [if_neg hs, hs2]
  show Ok (if byt x s = 0 then _ else _) Q
  by_cases hb : byt x s = 0
  · rw [if_pos hb]
    simp only [hb, ne_eq, not_true, decide_false, List.filter_cons, List.filter_nil, if_false, Bool.false_eq_true, List.length_nil, wrs] at hk
    exact hk σ h
  · have hn := hn hb
    have h1 := h.1
    rw [if_neg hb, if_neg (by rw [h1, show (160 : Int32) = nI 160 from rfl, n_le (by decide) (by omega)]; omega), ok_ck]
    refine ⟨by rw [h1, n_in (by omega)]; exact hn, ?_⟩
    have h2 := h.step (by decide) (byt x s)
    simp only [ne_eq, hb, not_false_iff, decide_true, List.filter_cons, List.filter_nil, if_true, List.length_cons, List.length_nil, wrs] at hk
    have h3 := hk _ h2
    rw [h1, n_ix (by omega)]
    exact h3
theorem c_add (x : Int32) {σ0 σ : Mm} {n : Nat} {f : Nat → Int32} (h : TA 1 1 2 σ0 σ n f) (hn : n + (bys x).length ≤ 160) : Ok (zfX9_add x σ) (fun σ' => TA 1 1 2 σ0 σ' (n + (bys x).length) (wrs f n (bys x))) := by
  unfold zfX9_add
  obtain ⟨m, hm⟩ := nf5
  rw [hm]
  have e : bys x = [byt x 24].filter (fun b => decide (b ≠ 0)) ++ ([byt x 16].filter (fun b => decide (b ≠ 0)) ++ ([byt x 8].filter (fun b => decide (b ≠ 0)) ++ [byt x 0].filter (fun b => decide (b ≠ 0)))) := by
    rw [← List.filter_append, ← List.filter_append, ← List.filter_append]; rfl
  have L : ∀ s, byt x s ≠ 0 → ([byt x s].filter (fun b => decide (b ≠ 0))).length = 1 := fun s hs => by simp [hs]
  rw [e] at hn ⊢
  simp only [List.length_append] at hn ⊢
  simp only [wrs_app]
  refine c_turn 16 (by decide) (by decide) (by decide) h (fun hb => by have := L _ hb; omega) (fun σ1 h => ?_)
  refine c_turn 8 (by decide) (by decide) (by decide) h (fun hb => by have := L _ hb; omega) (fun σ2 h => ?_)
  refine c_turn 0 (by decide) (by decide) (by decide) h (fun hb => by have := L _ hb; omega) (fun σ3 h => ?_)
  refine c_turn (-8) (by decide) (by decide) (by decide) h (fun hb => by have := L _ hb; omega) (fun σ4 h => ?_)
  unfold zfX9_add_L3
  rw [if_pos (by decide), ok_s]
  simpa only [Nat.add_assoc] using h
theorem r_turn {k : Mm → Option Mm} {x s : Int32} {fu : Nat} {σ0 σ : Mm} {n : Nat} {f : Nat → Int32} {Q : Mm → Prop} (s2 : Int32) (he : s + (-8) = s2) (hs : ¬ s < 0) (hs2 : s &&& 31 = s) (h : TA 703 6 704 σ0 σ n f) (hn : byt x s ≠ 0 → n < 160)
    (hk : ∀ σ', TA 703 6 704 σ0 σ' (n + ([byt x s].filter (fun b => decide (b ≠ 0))).length) (wrs f n (([byt x s].filter (fun b => decide (b ≠ 0))).map (fun _ => vp_nar .byte ((Int32.toInt8 (x >>> s)).toInt32)))) → Ok (zfX12_put_L3 k x fu s2 σ') Q) : Ok (zfX12_put_L3 k x (fu + 1) s σ) Q := by
  subst he
  unfold zfX12_put_L3
  rw [if_neg hs, hs2]
  show Ok (if byt x s = 0 then _ else _) Q
  by_cases hb : byt x s = 0
  · rw [if_pos hb]
    simp only [hb, ne_eq, not_true, decide_false, List.filter_cons, List.filter_nil, if_false, Bool.false_eq_true, List.length_nil, List.map_nil, wrs] at hk
    exact hk σ h
  · have hn := hn hb
    have h1 := h.1
    rw [if_neg hb, ok_ck]
    refine ⟨by rw [h1, n_in (by omega)]; exact hn, ?_⟩
    have h2 := h.step (by decide) (vp_nar .byte ((Int32.toInt8 (x >>> s)).toInt32))
    simp only [ne_eq, hb, not_false_iff, decide_true, List.filter_cons, List.filter_nil, if_true, List.length_cons, List.length_nil, List.map_cons, List.map_nil, wrs] at hk
    have h3 := hk _ h2
    rw [h1, n_ix (by omega)]
    exact h3
theorem rb_and (w : Int32) : vp_nar .byte ((Int32.toInt8 w).toInt32) &&& 255 = w &&& 255 := by
  unfold vp_nar narrow
  simp only
  apply Int32.toBitVec_inj.mp
  rw [Int32.toBitVec_and, Int32.toBitVec_and]
  apply BitVec.eq_of_getLsbD_eq
  intro i hi
  have hc : (255 : Int32).toBitVec.getLsbD i = decide (i < 8) := by
    by_cases h : i < 8
    · have : i = 0 ∨ i = 1 ∨ i = 2 ∨ i = 3 ∨ i = 4 ∨ i = 5 ∨ i = 6 ∨ i = 7 := by omega
      rcases this with rfl | rfl | rfl | rfl | rfl | rfl | rfl | rfl <;> decide
    · rw [decide_eq_false h]
      have : (255 : Int32).toBitVec = BitVec.ofNat 32 255 := rfl
      rw [this, BitVec.getLsbD_ofNat]
      have : Nat.testBit 255 i = false := Nat.testBit_lt_two_pow (Nat.lt_of_lt_of_le (by decide : 255 < 2^8) (Nat.pow_le_pow_right (by decide) (by omega)))
      simp [this]
  rw [BitVec.getLsbD_and, BitVec.getLsbD_and, hc]
  by_cases h : i < 8
  · have h0 : i < 8 := h
    simp [BitVec.getElem_signExtend, BitVec.getLsbD_signExtend, h, hi]
  · simp [h]
def bysR (x : Int32) : List Int32 := ([(24 : Int32), 16, 8, 0].filter (fun s => decide (byt x s ≠ 0))).map (fun s => vp_nar .byte ((Int32.toInt8 (x >>> s)).toInt32))
theorem bysR_and (x : Int32) : (bysR x).map (fun b => b &&& 255) = bys x := by
  unfold bysR bys
  rw [List.map_map]
  have : ∀ L : List Int32, (L.filter (fun s => decide (byt x s ≠ 0))).map ((fun b => b &&& 255) ∘ fun s => vp_nar .byte ((Int32.toInt8 (x >>> s)).toInt32)) = (L.map (byt x)).filter (fun b => decide (b ≠ 0)) := by
    intro L
    induction L with
    | nil => rfl
    | cons a L ih =>
      by_cases h : byt x a = 0
      · simpa [List.filter_cons, h] using ih
      · simp only [List.filter_cons, List.map_cons, ne_eq, h, not_false_iff, decide_true, if_true, Function.comp, rb_and]
        simp only [ne_eq] at ih
        rw [← ih]; rfl
  exact this [24, 16, 8, 0]
theorem bysR_len (x : Int32) : (bysR x).length = (bys x).length := by rw [← bysR_and, List.length_map]
theorem r_put (x : Int32) {σ0 σ : Mm} {n : Nat} {f : Nat → Int32} (h : TA 703 6 704 σ0 σ n f) (hn : n + (bys x).length ≤ 160) : Ok (zfX12_put x σ) (fun σ' => TA 703 6 704 σ0 σ' (n + (bys x).length) (wrs f n (bysR x))) := by
  unfold zfX12_put
  obtain ⟨m, hm⟩ := nf5
  rw [hm]
  have e : bys x = [byt x 24].filter (fun b => decide (b ≠ 0)) ++ ([byt x 16].filter (fun b => decide (b ≠ 0)) ++ ([byt x 8].filter (fun b => decide (b ≠ 0)) ++ [byt x 0].filter (fun b => decide (b ≠ 0)))) := by
    rw [← List.filter_append, ← List.filter_append, ← List.filter_append]; rfl
  have g : ∀ s, ([byt x s].filter (fun b => decide (b ≠ 0))).map (fun _ => vp_nar .byte ((Int32.toInt8 (x >>> s)).toInt32)) = ([s].filter (fun s => decide (byt x s ≠ 0))).map (fun s => vp_nar .byte ((Int32.toInt8 (x >>> s)).toInt32)) := by
    intro s
    by_cases h : byt x s = 0 <;> simp [h]
  have e2 : bysR x = ([byt x 24].filter (fun b => decide (b ≠ 0))).map (fun _ => vp_nar .byte ((Int32.toInt8 (x >>> 24)).toInt32)) ++ (([byt x 16].filter (fun b => decide (b ≠ 0))).map (fun _ => vp_nar .byte ((Int32.toInt8 (x >>> 16)).toInt32)) ++ (([byt x 8].filter (fun b => decide (b ≠ 0))).map (fun _ => vp_nar .byte ((Int32.toInt8 (x >>> 8)).toInt32)) ++ ([byt x 0].filter (fun b => decide (b ≠ 0))).map (fun _ => vp_nar .byte ((Int32.toInt8 (x >>> 0)).toInt32)))) := by
    rw [g, g, g, g, ← List.map_append, ← List.map_append, ← List.map_append, ← List.filter_append, ← List.filter_append, ← List.filter_append]; rfl
  have L : ∀ s, byt x s ≠ 0 → ([byt x s].filter (fun b => decide (b ≠ 0))).length = 1 := fun s hs => by simp [hs]
  rw [e2]
  rw [e] at hn ⊢
  simp only [List.length_append] at hn ⊢
  simp only [wrs_app, List.length_map]
  refine r_turn 16 (by decide) (by decide) (by decide) h (fun hb => by have := L _ hb; omega) (fun σ1 h => ?_)
  refine r_turn 8 (by decide) (by decide) (by decide) h (fun hb => by have := L _ hb; omega) (fun σ2 h => ?_)
  refine r_turn 0 (by decide) (by decide) (by decide) h (fun hb => by have := L _ hb; omega) (fun σ3 h => ?_)
  refine r_turn (-8) (by decide) (by decide) (by decide) h (fun hb => by have := L _ hb; omega) (fun σ4 h => ?_)
  unfold zfX12_put_L3
  rw [if_pos (by decide), ok_s]
  simpa only [Nat.add_assoc] using h
theorem wrs_lt {f : Nat → Int32} {n : Nat} {L : List Int32} {k : Nat} (h : k < n) : wrs f n L k = f k := by
  induction L generalizing f n with
  | nil => rfl
  | cons b L ih => show wrs (upd f n b) (n + 1) L k = _; rw [ih (by omega), upd_n (by omega)]
theorem wrs_get {f : Nat → Int32} {n : Nat} {L : List Int32} {k : Nat} (h : k < L.length) : wrs f n L (n + k) = L[k] := by
  induction L generalizing f n k with
  | nil => simp at h
  | cons b L ih =>
    show wrs (upd f n b) (n + 1) L (n + k) = _
    cases k with
    | zero => rw [wrs_lt (by omega)]; exact upd_s
    | succ k => rw [show n + (k + 1) = n + 1 + k by omega, ih (by simpa using h)]; rfl
/-- the tapes of both hold the same n bytes -/
def Tp (f g : Nat → Int32) (n : Nat) : Prop := ∀ k, k < n → g k &&& 255 = f k ∧ -128 ≤ (g k).toInt ∧ (g k).toInt < 128
theorem rb_in (w : Int32) : -128 ≤ (vp_nar .byte ((Int32.toInt8 w).toInt32)).toInt ∧ (vp_nar .byte ((Int32.toInt8 w).toInt32)).toInt < 128 := by
  have h : (vp_nar .byte ((Int32.toInt8 w).toInt32)).toInt = (Int32.toInt8 w).toInt := by
    unfold vp_nar narrow
    simp
  rw [h]
  exact ⟨Int8.le_toInt _, Int8.toInt_lt _⟩
theorem bysR_in (x : Int32) : ∀ b ∈ bysR x, -128 ≤ b.toInt ∧ b.toInt < 128 := by
  intro b hb
  unfold bysR at hb
  obtain ⟨s, _, rfl⟩ := List.mem_map.mp hb
  exact rb_in _
theorem Tp.app {f g : Nat → Int32} {n : Nat} (h : Tp f g n) (x : Int32) : Tp (wrs f n (bys x)) (wrs g n (bysR x)) (n + (bys x).length) := by
  intro k hk
  by_cases h2 : k < n
  · rw [wrs_lt h2, wrs_lt h2]; exact h k h2
  · obtain ⟨j, rfl⟩ : ∃ j, k = n + j := ⟨k - n, by omega⟩
    have hj : j < (bys x).length := by omega
    have hj2 : j < (bysR x).length := by rw [bysR_len]; exact hj
    rw [wrs_get hj, wrs_get hj2]
    refine ⟨by simp only [← bysR_and, List.getElem_map], bysR_in x _ (List.getElem_mem hj2)⟩
theorem c_feed (x1 x2 x3 x4 x5 : Int32) {σ : Mm} {n : Nat} (h1 : σ 1 1 = nI n) (hn : n ≤ 160) : if n + (bys x1).length + (bys x2).length + (bys x3).length + (bys x4).length + (bys x5).length ≤ 160 then
    Ok (zfX11_feed x1 x2 x3 x4 x5 σ) (fun a => a.1 = nI (n + (bys x1).length + (bys x2).length + (bys x3).length + (bys x4).length + (bys x5).length) ∧ TA 1 1 2 σ a.2 (n + (bys x1).length + (bys x2).length + (bys x3).length + (bys x4).length + (bys x5).length) (wrs (wrs (wrs (wrs (wrs (σ 2) n (bys x1)) (n + (bys x1).length) (bys x2)) (n + (bys x1).length + (bys x2).length) (bys x3)) (n + (bys x1).length + (bys x2).length + (bys x3).length) (bys x4)) (n + (bys x1).length + (bys x2).length + (bys x3).length + (bys x4).length) (bys x5)))
    else zfX11_feed x1 x2 x3 x4 x5 σ = some (-1, σ) := by
  have b1 := bys_len x1; have b2 := bys_len x2; have b3 := bys_len x3; have b4 := bys_len x4; have b5 := bys_len x5
  unfold zfX11_feed
  simp only [c_bytes, bd_some, lt, n_add, h1]
  rw [show (160 : Int32) = nI 160 from rfl]
  simp only [n_le (a := n + ((bys x1).length + (bys x2).length + (bys x3).length + (bys x4).length + (bys x5).length)) (b := 160) (by omega) (by omega)]
  split
  · rename_i hle
    rw [if_pos (by omega)]
    simp only [ok_bd]
    refine ok_mono (c_add x1 (σ0 := σ) ⟨h1, rfl, fun _ _ _ => rfl, fun _ _ => rfl⟩ (by omega)) (fun σ1 t => ?_)
    refine ok_mono (c_add x2 t (by omega)) (fun σ2 t => ?_)
    refine ok_mono (c_add x3 t (by omega)) (fun σ3 t => ?_)
    refine ok_mono (c_add x4 t (by omega)) (fun σ4 t => ?_)
    refine ok_mono (c_add x5 t (by omega)) (fun σ5 t => ?_)
    exact ok_s.mpr ⟨t.1, t⟩
  · rw [if_neg (by omega)]
theorem r_feed (x1 x2 x3 x4 x5 : Int32) {σ : Mm} {n : Nat} (h1 : σ 703 6 = nI n) (hn : n ≤ 160) : if n + (bys x1).length + (bys x2).length + (bys x3).length + (bys x4).length + (bys x5).length ≤ 160 then
    Ok (zfX12_feed x1 x2 x3 x4 x5 σ) (fun a => a.1 = nI (n + (bys x1).length + (bys x2).length + (bys x3).length + (bys x4).length + (bys x5).length) ∧ TA 703 6 704 (zst σ 703 0 0) a.2 (n + (bys x1).length + (bys x2).length + (bys x3).length + (bys x4).length + (bys x5).length) (wrs (wrs (wrs (wrs (wrs (σ 704) n (bysR x1)) (n + (bys x1).length) (bysR x2)) (n + (bys x1).length + (bys x2).length) (bysR x3)) (n + (bys x1).length + (bys x2).length + (bys x3).length) (bysR x4)) (n + (bys x1).length + (bys x2).length + (bys x3).length + (bys x4).length) (bysR x5)))
    else zfX12_feed x1 x2 x3 x4 x5 σ = some (-1, zst σ 703 0 0) := by
  have b1 := bys_len x1; have b2 := bys_len x2; have b3 := bys_len x3; have b4 := bys_len x4; have b5 := bys_len x5
  have h1 : zst σ 703 0 0 703 6 = nI n := by rw [zst_s, upd_n (by decide), h1]
  have e2 : zst σ 703 0 0 704 = σ 704 := zst_n (by decide)
  unfold zfX12_feed
  simp only [r_bytes, bd_some, lt]
  rw [h1]
  generalize zst σ 703 0 0 = τ at h1 e2 ⊢
  simp only [n_add]
  rw [show (160 : Int32) = nI 160 from rfl]
  simp only [n_le (a := n + (bys x1).length + (bys x2).length + (bys x3).length + (bys x4).length + (bys x5).length) (b := 160) (by omega) (by omega)]
  rw [← e2]
  split
  · rename_i hle
    simp only [ok_bd]
    refine ok_mono (r_put x1 (σ0 := τ) ⟨h1, rfl, fun _ _ _ => rfl, fun _ _ => rfl⟩ (by omega)) (fun σ1 t => ?_)
    refine ok_mono (r_put x2 t (by omega)) (fun σ2 t => ?_)
    refine ok_mono (r_put x3 t (by omega)) (fun σ3 t => ?_)
    refine ok_mono (r_put x4 t (by omega)) (fun σ4 t => ?_)
    refine ok_mono (r_put x5 t (by omega)) (fun σ5 t => ?_)
    exact ok_s.mpr ⟨t.1, t⟩
  · rfl
