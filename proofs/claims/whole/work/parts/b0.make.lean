/-! ===== the making of the cells ===== -/
def zPu (P : Nat → Option (List Nat)) (b : Nat) (v : Option (List Nat)) : Nat → Option (List Nat) := fun a => if a = b then v else P a
/-- the links while n cells stand: of a cell of P those that are named there -/
def zGx (n : Nat) (P : Nat → Option (List Nat)) : Gm := fun a k => if a < n then (match P a with | some ks => if k ∈ ks then GF a k else none | none => GF a k) else none
def zhc (D : va_G) (A0 : Nat) (σ : Mm) (P : Nat → Option (List Nat)) (n : Nat) (H0 H : Heap) (locs : List Loc) : Prop :=
  zh D A0 σ (zGx n P) n H0 H locs ∧ ∀ a, n ≤ a → σ a = fun _ => 0
theorem zh_eq {D : va_G} {A0 : Nat} {σ σ1 : Mm} {G G1 : Gm} {n : Nat} {H0 H : Heap} {locs : List Loc} (Z : zh D A0 σ G n H0 H locs) (h : ∀ a, a < n → zent D A0 σ1 G1 a = zent D A0 σ G a) : zh D A0 σ1 G1 n H0 H locs := by
  refine ⟨fun k q hk => ?_, Z.2⟩
  obtain ⟨hk2, rfl⟩ := zwl_at hk
  rw [h k hk2]
  exact Z.1 k _ (zwl_get hk2)
theorem zPu_s {P : Nat → Option (List Nat)} {b : Nat} {v : Option (List Nat)} : zPu P b v b = v := if_pos rfl
theorem zPu_n {P : Nat → Option (List Nat)} {b a : Nat} {v : Option (List Nat)} (h : a ≠ b) : zPu P b v a = P a := if_neg h
theorem zGx_eq {n m : Nat} {P P1 : Nat → Option (List Nat)} {a : Nat} (h : a < n) (h2 : a < m) (hp : P1 a = P a) : zGx m P1 a = zGx n P a := by
  funext k
  unfold zGx
  rw [if_pos h, if_pos h2, hp]
/-- a world with one cell more -/
theorem zh_push {D : va_G} {A0 : Nat} {σ : Mm} {G G1 : Gm} {n : Nat} {H0 H H1 : Heap} {locs : List Loc} (Z : zh D A0 σ G n H0 H locs) (hs : H.size = A0 + n) (h1 : H1.size = A0 + n + 1) (ho : ∀ q, q < A0 + n → H1[q]? = H[q]?) (hG : ∀ a, a < n → G1 a = G a) (hn : va_at D vwCl (A0 + n, zent D A0 σ G1 n) H1) : zh D A0 σ G1 (n + 1) H0 H1 locs := by
  refine ⟨fun k q hk => ?_, Nat.le_trans Z.2.1 (by omega), fun q h2 h3 => by rw [ho q (by have := Z.2.1; omega)]; exact Z.2.2.1 q h2 h3, Z.2.2.2⟩
  obtain ⟨hk2, rfl⟩ := zwl_at hk
  by_cases hkn : k = n
  · subst hkn; exact hn
  · have hk3 : k < n := by omega
    rw [zent_eq (σ := σ) (σ1 := σ) (G := G) (G1 := G1) rfl (hG k hk3)]
    exact (Z.1 k _ (zwl_get hk3)).kept (ho _ (by omega))
section ZK
variable {p : Program} {l : Launch} {e : Env} {R : Room} {s : State} {m : MethodId} {args : Array Value} {below : List Frame} {meth : Method} {c : Code} {H : Heap} {locs : List Loc} {cells slots : Nat} {Q : State → Prop}
variable {cc : ByteArray} {nL : Nat} {own : String} {D : va_G} {A0 : Nat} {σ : Mm} {P P1 : Nat → Option (List Nat)} {n n0 : Nat} {pc : Nat} {ls : Array Slot} {rest st : List Value}
theorem zint {x y : Int32} (h : x = y) (k : W p l e R s m args below meth c H locs cells slots Q (F0 m pc ls (.int y :: rest))) : W p l e R s m args below meth c H locs cells slots Q (F0 m pc ls (.int x :: rest)) := h ▸ k
theorem zsized {g : JFrame} (k : H.size ≤ s.heap.size + cells → W p l e R s m args below meth c H locs cells slots Q g) : W p l e R s m args below meth c H locs cells slots Q g := by
  intro T hT X
  have h := X.same.2.2.1
  exact k (by rw [← hT]; exact h) T hT X
theorem zsz {G : Gm} {H0 : Heap} (Z : zh D A0 σ G n H0 H locs) (h0 : H0.size = A0 + n0) (hc : n = n0 + cells) (hle : H.size ≤ H0.size + cells) : H.size = A0 + n := by
  have h1 : A0 + n ≤ H.size := by
    by_cases hn : n = 0
    · have := Z.2.1; omega
    · have := (Z.1 (n - 1) _ (zwl_get (by omega))).lt
      have h9 : A0 + (n - 1) < H.size := this
      omega
  omega
/-- a new object -/
theorem zk_new (F : zx p s m c cc nL args own D A0) (Z : zhc D A0 σ P n s.heap H locs) (hz0 : s.heap.size = A0 + n0) (hzc : n = n0 + cells) {ci N idx : Nat} {C : String} {T : u_T} {ty : Nat → FieldType} (hC : zC ci C T N ty) (hs : zs n = (ci, N)) (hdf : ∀ j, j < N → defaultValue (ty j) = (if zk ci j = 0 then .int 0 else if zk ci j = 1 then .long 0 else .null))
    (hl : Cond.classLink own idx C ∈ zTB) (hin : Cond.instantiable C N ∈ zTB) (hini : Cond.initialized C ∈ zTB) (hcl : cells + 1 ≤ R.cells) (hsl : slots + N ≤ R.slots) (hd : decode cc pc = .ok (.new idx, 3))
    (kk : ∀ (H1 : Heap), zhc D A0 σ (zPu P n (some [])) (n + 1) s.heap H1 locs → W p l e R s m args below meth c H1 locs (cells + 1) (slots + N) Q (F0 m (pc + 3) ls (.ref (A0 + n) :: rest))) : W p l e R s m args below meth c H locs cells slots Q (F0 m pc ls rest) := by
  obtain ⟨⟨hx, hb, -, hown, hts⟩, hK, -⟩ := F
  obtain ⟨Z, h0⟩ := Z
  refine zsized fun hle => ?_
  have hsz := zsz Z hz0 hzc hle
  have hKn := hK.1 ci _ hC.1
  refine W.newcK hx hb hown (hts _ hl) (hts _ hin) (hts _ hini) rfl hd hcl hsl hKn.2.1 hsz fun H1 kC hkC e1 z1 o1 => ?_
  refine kk H1 ⟨zh_push Z hsz (by omega) o1 (fun a ha => zGx_eq ha (by omega) (zPu_n (by omega))) ?_, fun a ha => h0 a (by omega)⟩
  rw [zent_o hs hC.2.1]
  refine ⟨_, hC.1, (u_born ty hts hC.2.2.1 hKn hkC e1 hC.2.2.2.1).to (fun j hj => ?_)⟩
  rw [hdf j hj]
  unfold vp_V
  rw [List.getD_eq_getElem?_getD, zfs_get hj]
  have hg : zGx (n + 1) (zPu P n (some [])) n j = none := by
    unfold zGx
    rw [if_pos (by omega), zPu_s]
    simp
  have hz : ∀ j, σ n j = 0 := fun j => by rw [h0 n (Nat.le_refl _)]
  show _ = zfv D A0 σ (zGx (n + 1) (zPu P n (some []))) ci n j
  unfold zfv
  rw [hg, hz j, hz (j + 200)]
  by_cases q0 : zk ci j = 0
  · rw [if_pos q0, if_pos q0]
  · rw [if_neg q0, if_neg q0]
    by_cases q1 : zk ci j = 1
    · rw [if_pos q1, if_pos q1]; rfl
    · rw [if_neg q1, if_neg q1]
      by_cases q2 : zk ci j = 2
      · rw [if_pos q2]; rfl
      · rw [if_neg q2]
        by_cases q3 : zk ci j = 3
        · rw [if_pos q3, if_pos rfl]
        · rw [if_neg q3]; rfl
/-- a new row of numbers -/
theorem zk_newa (F : zx p s m c cc nL args own D A0) (Z : zhc D A0 σ P n s.heap H locs) (hz0 : s.heap.size = A0 + n0) (hzc : n = n0 + cells) {ty N : Nat} {atype : ArrayType} {k : Int32} (hs : zs n = (50 + ty, N)) (hty : (ty = 0 ∧ atype = .int) ∨ (ty = 1 ∧ atype = .boolean) ∨ (ty = 2 ∧ atype = .byte) ∨ (ty = 3 ∧ atype = .long))
    (harr : Cond.arrayClass (newarray.typeOf atype) ∈ zTB) (hk : ¬ k < 0) (hN : k.toNatClampNeg = N) (hbt : N * componentBytes (newarray.typeOf atype) ≤ 536870912) (hcl : cells + 1 ≤ R.cells) (hsl : slots + N ≤ R.slots) (hd : decode cc pc = .ok (.newarray atype, 2))
    (kk : ∀ (H1 : Heap), zhc D A0 σ P (n + 1) s.heap H1 locs → W p l e R s m args below meth c H1 locs (cells + 1) (slots + N) Q (F0 m (pc + 2) ls (.ref (A0 + n) :: rest))) : W p l e R s m args below meth c H locs cells slots Q (F0 m pc ls (.int k :: rest)) := by
  obtain ⟨⟨hx, hb, -, hown, hts⟩, hK, -⟩ := F
  obtain ⟨Z, h0⟩ := Z
  refine zsized fun hle => ?_
  have hsz := zsz Z hz0 hzc hle
  refine va_newaK hx hb (hts _ harr) rfl hd rfl hk hN hbt hcl hsl hsz fun H1 cA e1 z1 o1 hAr hNm => ?_
  have hz : σ n = fun _ => 0 := h0 n (Nat.le_refl _)
  refine kk H1 ⟨zh_push Z hsz (by omega) o1 (fun a ha => zGx_eq ha (by omega) rfl) ?_, fun a ha => h0 a (by omega)⟩
  rcases hty with ⟨rfl, rfl⟩ | ⟨rfl, rfl⟩ | ⟨rfl, rfl⟩ | ⟨rfl, rfl⟩
  · have ec : cA = D.1 50 := Option.some.inj (hNm.symm.trans (hK.2 0 _ rfl).2)
    rw [zent_i hs (by decide) (by decide), hz]
    show H1[A0 + n]? = some (vp_cell _ _)
    rw [e1, ec]; rfl
  · have ec : cA = D.1 51 := Option.some.inj (hNm.symm.trans (hK.2 1 _ rfl).2)
    rw [zent_i hs (by decide) (by decide), hz]
    show H1[A0 + n]? = some (vp_cell _ _)
    rw [e1, ec]; rfl
  · have ec : cA = D.1 52 := Option.some.inj (hNm.symm.trans (hK.2 2 _ rfl).2)
    rw [zent_i hs (by decide) (by decide), hz]
    show H1[A0 + n]? = some (vp_cell _ _)
    rw [e1, ec]; rfl
  · have ec : cA = D.1 53 := Option.some.inj (hNm.symm.trans (hK.2 3 _ rfl).2)
    rw [zent_l hs, hz]
    show H1[A0 + n]? = some (vp_cell _ _)
    rw [e1, ec, vp_cell_l]
    have hzj : zj 0 0 = 0 := by decide
    show some (arrV (D.1 53) N fun _ => Value.long 0) = some (arrV (D.1 53) N fun j => Value.long (zj 0 0))
    rw [hzj]
/-- a new row of links -/
theorem zk_anew (F : zx p s m c cc nL args own D A0) (Z : zhc D A0 σ P n s.heap H locs) (hz0 : s.heap.size = A0 + n0) (hzc : n = n0 + cells) {ty N idx : Nat} {C : String} {k : Int32} (hs : zs n = (50 + ty, N)) (h4 : 4 ≤ ty) (ht : (zTY D)[ty]? = some (D.1 (50 + ty), .object C)) (hl : Cond.classLink own idx C ∈ zTB) (hover : va_AO C s) (hk : ¬ k < 0) (hN : k.toNatClampNeg = N) (hbt : N * 4 ≤ 536870912) (hcl : cells + 1 ≤ R.cells) (hsl : slots + N ≤ R.slots) (hd : decode cc pc = .ok (.anewarray idx, 3))
    (kk : ∀ (H1 : Heap), zhc D A0 σ (zPu P n (some [])) (n + 1) s.heap H1 locs → W p l e R s m args below meth c H1 locs (cells + 1) (slots + N) Q (F0 m (pc + 3) ls (.ref (A0 + n) :: rest))) : W p l e R s m args below meth c H locs cells slots Q (F0 m pc ls (.int k :: rest)) := by
  obtain ⟨⟨hx, hb, -, hown, hts⟩, hK, -⟩ := F
  obtain ⟨Z, h0⟩ := Z
  refine zsized fun hle => ?_
  have hsz := zsz Z hz0 hzc hle
  refine W.anew hx hb hown (hts _ hl) (va_AO.use hover) rfl hd rfl hk (by rw [hN]; exact hbt) hcl (by rw [hN]; exact hsl) fun cA kA comp f1 f2 f3 f4 => ?_
  generalize hH1 : H.push ({ cls := cA, slots := Array.replicate k.toNatClampNeg .null, vm := .none } : Cell) = H1
  have z1 : H1.size = H.size + 1 := by rw [← hH1, Array.size_push]
  have e1 : H1[H.size]? = some (arrV cA k.toNatClampNeg (fun _ => .null)) := by rw [← hH1, Array.getElem?_push_size, ← arrV_new]
  have o1 : ∀ q : Nat, q < H.size → H1[q]? = H[q]? := fun q hq => by rw [← hH1, Array.getElem?_push, if_neg (Nat.ne_of_lt hq)]
  have ec : cA = D.1 (50 + ty) := by
    obtain ⟨kA', comp', g1, g2, g3, g4⟩ := (hK.2 ty _ ht).2
    exact Option.some.inj (f1.symm.trans g4)
  have kk' := kk H1 ⟨zh_push Z hsz (by omega) (fun q hq => o1 q (by omega)) (fun a ha => zGx_eq ha (by omega) (zPu_n (by omega))) (by
    rw [zent_q hs (by omega)]
    show H1[A0 + n]? = some (vp_cell _ _)
    rw [← hsz, e1, ec, hN, vp_cell_q]
    congr 2
    funext j
    have hg : zGx (n + 1) (zPu P n (some [])) n j = none := by
      unfold zGx
      rw [if_pos (by omega), zPu_s]
      simp
    rw [hg]; rfl), fun a ha => h0 a (by omega)⟩
  rw [hsz, hN]
  exact kk'
theorem zGx_p {P : Nat → Option (List Nat)} {n a k : Nat} {ks : List Nat} (ha : a < n) (hp : P a = some ks) : zGx n P a k = if k ∈ ks then GF a k else none := by
  unfold zGx
  rw [if_pos ha, hp]
/-- a final link is written -/
theorem zk_putR (F : zx p s m c cc nL args own D A0) (Z : zhc D A0 σ P n s.heap H locs) {ci N idx : Nat} {C ref : String} {T : u_T} {ty : Nat → FieldType} (hC : zC ci C T N ty) {a k b : Nat} {ks : List Nat} (ha : a < n) (hs : zs a = (ci, N)) (hk : k < N) (h0 : zk ci k = 2) (hG : GF a k = some b) (hp : P a = some ks) (hp1 : P1 a = some (k :: ks)) (hpo : ∀ c, c ≠ a → P1 c = P c)
    (hl : Cond.fieldLink own idx ref (T k).2.1 (T k).2.2.1 ∈ zTB) (hsame : (T k).1 = ref) (hfin : (T k).2.2.2 = true ∧ meth.name = "<init>" ∧ (T k).1 = own) (hn : ∀ q, narrow (ty k) (.ref q) = .ref q ∧ fits (ty k) (.ref q) = true) (hd : decode cc pc = .ok (.putfield idx, 3))
    (kk : ∀ (H1 : Heap) (locs1 : List Loc), zhc D A0 σ P1 n s.heap H1 locs1 → W p l e R s m args below meth c H1 locs1 cells slots Q (F0 m (pc + 3) ls rest)) : W p l e R s m args below meth c H locs cells slots Q (F0 m pc ls (.ref (A0 + b) :: .ref (A0 + a) :: rest)) :=
  zw_putv F Z.1 hC (σ1 := σ) (G1 := zGx n P1) ha hs hk (fun c hc => ⟨rfl, by funext j; unfold zGx; rw [hpo c hc]⟩)
    (by
      unfold zfv
      rw [h0, zGx_p ha hp1, if_pos List.mem_cons_self, hG]
      rfl)
    (fun j hj hjN => by
      unfold zfv
      have e : zGx n P1 a j = zGx n P a j := by
        rw [zGx_p ha hp1, zGx_p ha hp]
        by_cases q : j ∈ ks
        · rw [if_pos q, if_pos (List.mem_cons_of_mem _ q)]
        · rw [if_neg q, if_neg (fun z => (List.mem_cons.mp z).elim hj q)]
      rw [e]) hl (Or.inl hsame) (Or.inr hfin) (hn _).1 (hn _).2 hd (fun H1 locs1 Z1 => kk H1 locs1 ⟨Z1, Z.2⟩)
/-- a String's link is written -/
theorem zk_putS (F : zx p s m c cc nL args own D A0) (Z : zhc D A0 σ P n s.heap H locs) {ci N idx : Nat} {C ref : String} {T : u_T} {ty : Nat → FieldType} (hC : zC ci C T N ty) {a k b : Nat} {ks : List Nat} (ha : a < n) (hs : zs a = (ci, N)) (hk : k < N) (h0 : zk ci k = 4) (hG : GF a k = some b) (hp : P a = some ks) (hp1 : P1 a = some (k :: ks)) (hpo : ∀ c, c ≠ a → P1 c = P c)
    (hl : Cond.fieldLink own idx ref (T k).2.1 (T k).2.2.1 ∈ zTB) (hsame : (T k).1 = ref) (hfin : (T k).2.2.2 = true ∧ meth.name = "<init>" ∧ (T k).1 = own) (hn : ∀ q, narrow (ty k) (.ref q) = .ref q ∧ fits (ty k) (.ref q) = true) (hd : decode cc pc = .ok (.putfield idx, 3))
    (kk : ∀ (H1 : Heap) (locs1 : List Loc), zhc D A0 σ P1 n s.heap H1 locs1 → W p l e R s m args below meth c H1 locs1 cells slots Q (F0 m (pc + 3) ls rest)) : W p l e R s m args below meth c H locs cells slots Q (F0 m pc ls (.ref (D.1 (60 + b)) :: .ref (A0 + a) :: rest)) :=
  zw_putv F Z.1 hC (σ1 := σ) (G1 := zGx n P1) ha hs hk (fun c hc => ⟨rfl, by funext j; unfold zGx; rw [hpo c hc]⟩)
    (by
      unfold zfv
      rw [h0, zGx_p ha hp1, if_pos List.mem_cons_self, hG]
      rfl)
    (fun j hj hjN => by
      unfold zfv
      have e : zGx n P1 a j = zGx n P a j := by
        rw [zGx_p ha hp1, zGx_p ha hp]
        by_cases q : j ∈ ks
        · rw [if_pos q, if_pos (List.mem_cons_of_mem _ q)]
        · rw [if_neg q, if_neg (fun z => (List.mem_cons.mp z).elim hj q)]
      rw [e]) hl (Or.inl hsame) (Or.inr hfin) (hn _).1 (hn _).2 hd (fun H1 locs1 Z1 => kk H1 locs1 ⟨Z1, Z.2⟩)
/-- a link is put into a row -/
theorem zk_aast (F : zx p s m c cc nL args own D A0) (Z : zhc D A0 σ P n s.heap H locs) {a b ci ty N N1 : Nat} {C : String} {T : u_T} {N2 : Nat} {ft : Nat → FieldType} {i : Int32} {ks : List Nat} (ha : a < n) (hs : zs a = (50 + ty, N)) (hty : 4 ≤ ty) (ht : (zTY D)[ty]? = some (D.1 (50 + ty), .object C)) (hb : b < n) (hsb : zs b = (ci, N1)) (hC : zC ci C T N2 ft) (hin : inb i N) (hG : GF a (ix i) = some b) (hp : P a = some ks) (hp1 : P1 a = some (ix i :: ks)) (hpo : ∀ c, c ≠ a → P1 c = P c) (hd : decode cc pc = .ok (.aastore, 1))
    (kk : ∀ (H1 : Heap) (locs1 : List Loc), zhc D A0 σ P1 n s.heap H1 locs1 → W p l e R s m args below meth c H1 locs1 cells slots Q (F0 m (pc + 1) ls rest)) : W p l e R s m args below meth c H locs cells slots Q (F0 m pc ls (.ref (A0 + b) :: .int i :: .ref (A0 + a) :: rest)) := by
  refine va_astq (tys := zTY D) F.1.1 F.1.2.1 F.2.1 Z.1.1 zwl_D Z.1.2 a ty b ci (r := (C, T, N2)) (f := fun j => (zGx n P a j).map (fun b => A0 + b)) (by rw [zwl_get ha, zent_q hs (by omega)]) ht (by rw [zwl_get hb, zent_o hsb hC.2.1]) hC.1 (inb_vp hin) hd (fun H1 locs1 hP _ hS => kk H1 locs1 ⟨⟨?_, hS⟩, Z.2⟩)
  have e : (zwl D A0 σ (zGx n P) n).set a (A0 + a, .inl (D.1 (50 + ty), N, .inr (.inr (.inr (.inr (va_up (fun j => (zGx n P a j).map (fun b => A0 + b)) (ix i) (some (A0 + b)))))))) = zwl D A0 σ (zGx n P1) n := by
    refine zwl_set ha (fun c hc => ⟨rfl, by funext j; unfold zGx; rw [hpo c hc]⟩) ?_
    rw [zent_q hs (by omega)]
    congr 7
    funext j
    unfold va_up
    by_cases hj : j = ix i
    · rw [if_pos hj, hj, zGx_p ha hp1, if_pos List.mem_cons_self, hG]; rfl
    · rw [if_neg hj]
      show Option.map (fun b => A0 + b) (zGx n P a j) = Option.map (fun b => A0 + b) (zGx n P1 a j)
      rw [zGx_p ha hp1, zGx_p ha hp]
      by_cases q : j ∈ ks
      · rw [if_pos q, if_pos (List.mem_cons_of_mem _ q)]
      · rw [if_neg q, if_neg (fun z => (List.mem_cons.mp z).elim hj q)]
  rw [← e]
  exact hP
/-- a place of a row of ints, a field that holds an int, a link that changes, while cells are made -/
theorem zhc_put {a k : Nat} {v : Int32} {σ1 : Mm} {H0 : Heap} (Z : zhc D A0 σ P n H0 H locs) (ha : a < n) (e : σ1 = zst σ a k v) {H1 : Heap} {locs1 : List Loc} (Z1 : zh D A0 σ1 (zGx n P) n H0 H1 locs1) : zhc D A0 σ1 P n H0 H1 locs1 :=
  ⟨Z1, fun b hb => by rw [e, zst_n (by omega)]; exact Z.2 b hb⟩
/-- all links of a cell stand -/
theorem zhc_drop {a : Nat} {ks : List Nat} {H0 : Heap} (Z : zhc D A0 σ P n H0 H locs) (ha : a < n) (hp : P a = some ks) (hp1 : P1 a = none) (hpo : ∀ c, c ≠ a → P1 c = P c) (hks : (∀ k, k < (zs a).2 → 50 ≤ (zs a).1 ∨ (¬ zk (zs a).1 k = 0 ∧ ¬ zk (zs a).1 k = 1 ∧ ¬ zk (zs a).1 k = 3) → k ∈ ks) ∧ (50 ≤ (zs a).1 → ∀ k, (zs a).2 ≤ k → GF a k = none)) : zhc D A0 σ P1 n H0 H locs := by
  refine ⟨zh_eq Z.1 (fun c hc => ?_), Z.2⟩
  by_cases hca : c = a
  · subst hca
    have hg : ∀ j, zGx n P1 c j = GF c j := fun j => by unfold zGx; rw [if_pos ha, hp1]
    have hg2 : ∀ j, zGx n P c j = if j ∈ ks then GF c j else none := fun j => zGx_p ha hp
    unfold zent
    by_cases h5 : (zs c).1 < 50
    · rw [if_pos h5, if_pos h5]
      congr 2
      apply List.map_congr_left
      intro j hj
      have hj := List.mem_range.mp hj
      unfold zfv
      by_cases q0 : zk (zs c).1 j = 0
      · rw [if_pos q0, if_pos q0]
      · by_cases q1 : zk (zs c).1 j = 1
        · rw [if_neg q0, if_neg q0, if_pos q1, if_pos q1]
        · by_cases q3 : zk (zs c).1 j = 3
          · have q2 : ¬ zk (zs c).1 j = 2 := by rw [q3]; decide
            rw [if_neg q0, if_neg q0, if_neg q1, if_neg q1, if_neg q2, if_neg q2, if_pos q3, if_pos q3]
          · rw [hg, hg2, if_pos (hks.1 j hj (Or.inr ⟨q0, q1, q3⟩))]
    · rw [if_neg h5, if_neg h5]
      by_cases h6 : (zs c).1 < 53
      · rw [if_pos h6, if_pos h6]
      · rw [if_neg h6, if_neg h6]
        by_cases h7 : (zs c).1 = 53
        · rw [if_pos h7, if_pos h7]
        · rw [if_neg h7, if_neg h7]
          congr 7
          funext j
          rw [hg, hg2]
          by_cases hj : j < (zs c).2
          · rw [if_pos (hks.1 j hj (Or.inl (by omega)))]
          · rw [hks.2 (by omega) j (by omega)]
            split <;> rfl
  · exact zent_eq rfl (by funext j; unfold zGx; rw [hpo c hca])
def zPcs (D : va_G) (A0 : Nat) (σ : Mm) (G : Gm) (n : Nat) (av : List Value) : Array Value → State → Prop := va_Pc av (fun U => zWd D A0 σ G n U ∧ U.heap.size = A0 + n)
theorem zPcs_blind {G : Gm} {av : List Value} : FrameBlind (zPcs D A0 σ G n av) := by
  intro a U g mk q
  obtain ⟨h1, ⟨h2, h3, h4, h5⟩, h6⟩ := q
  exact ⟨h1, ⟨h2, va_K.moved (u := U) (U := U.calling g mk a) (Vm.Alike.refl U.vm) h3, zRO.same h4, h5⟩, h6⟩
def zBI (y : MethodName) (b : ByteArray) (mL : Nat) (nA : Nat) : Prop := zB y b mL none nA ∧ y.name = "<init>" ∧ Cond.instanceMethod y ∈ zTB
variable {y : MethodName} {b : ByteArray} {mL nA idx a mc ms : Nat} {rm : Room} {As : List Value} {G : Gm} {Qc : Array Value → State → Outcome → State → Prop}
theorem zpres (F : zx p s m c cc nL args own D A0) (Z : zh D A0 σ G n s.heap H locs) (hsz : H.size = A0 + n) {av : List Value} : ∀ U : State, U.heap = H → s.WarmedH U.vm → zPcs D A0 σ G n av av.toArray U := fun U hU hW =>
  ⟨rfl, (zpre F Z (av := av) U hU hW).2, by rw [hU]; exact hsz⟩
/-- a constructor is called -/
theorem zr_I (F : zx p s m c cc nL args own D A0) (Z : zh D A0 σ G n s.heap H locs) (hsz : H.size = A0 + n) (hM : Met l y (zws y b mL none) rm (zPcs D A0 σ G n (.ref (A0 + a) :: As)) Qc mc ms (zA A0)) (hB : zBI y b mL nA) (hl : Cond.methodLink own idx y ∈ zTB) (hn : As.length = nA) (hR : zrm R rm mL mc ms)
    (hls : ls.size = nL) (hst : st = As.reverse ++ .ref (A0 + a) :: rest) (hcat : (rest.map fun v => v.category).sum ≤ 8) (hd : decode cc pc = .ok (.invokespecial idx, 3)) (hf : cells + mc ≤ R.cells ∧ slots + ms ≤ R.slots) :
    va_Run p l e R s m args below meth c H locs cells slots mc ms (F0 m pc ls st) rest (Qc (Value.ref (A0 + a) :: As).toArray) (zA A0) := by
  have ht := F.1.2.2.2.2
  exact va_runI (n := nA) F.1 hM ⟨callB_of nA ht (zG hB.1.1) rfl hR.1.1 hR.1.2 (ht _ hB.1.2.1) (ht _ hl) hB.1.2.2 hR.2, hB.2.1, ht _ hB.2.2⟩ ⟨zPcs_blind, zpres F Z hsz⟩ rfl hn hls hst (lv_room hcat) hd hf
/-- a nest mate's private constructor is called -/
theorem zr_IN (F : zx p s m c cc nL args own D A0) (Z : zh D A0 σ G n s.heap H locs) (hsz : H.size = A0 + n) (hM : Met l y (zws y b mL none) rm (zPcs D A0 σ G n (.ref (A0 + a) :: As)) Qc mc ms (zA A0)) (hB : zBI y b mL nA) (hl : (own, idx, y) ∈ zNM) (hn : As.length = nA) (hR : zrm R rm mL mc ms)
    (hls : ls.size = nL) (hst : st = As.reverse ++ .ref (A0 + a) :: rest) (hcat : (rest.map fun v => v.category).sum ≤ 8) (hd : decode cc pc = .ok (.invokespecial idx, 3)) (hf : cells + mc ≤ R.cells ∧ slots + ms ≤ R.slots) :
    va_Run p l e R s m args below meth c H locs cells slots mc ms (F0 m pc ls st) rest (Qc (Value.ref (A0 + a) :: As).toArray) (zA A0) := by
  have ht := F.1.2.2.2.2
  exact va_runIN (n := nA) (host := "UnsoldPrice") F.1 hM ⟨va_cnB nA ht (zG hB.1.1) rfl hR.1.1 hR.1.2 (F.2.2.1.2.2.2.2.1 _ hl) (ht _ hB.1.2.1) hB.1.2.2 hR.2, hB.2.1, ht _ hB.2.2⟩ ⟨zPcs_blind, zpres F Z hsz⟩ rfl hn hls hst (lv_room hcat) hd hf
theorem ze_vm {G1 : Gm} {σ1 : Mm} (F : zx p s m c cc nL args own D A0) (Z : zh D A0 σ G n s.heap H locs) (hr : meth.sig.returnType = none) (hlocks : meth.locks = false) (h1 : cells ≤ mc) (h2 : slots ≤ ms) (hs : σ = σ1) (hG : G = G1) (hd : decode cc pc = .ok (.return_, 1)) :
    W p l e R s m args below meth c H locs cells slots (MQ below (zQv D A0 σ1 G1 n) args s mc ms (zA A0)) (F0 m pc ls []) := by
  subst hs; subst hG
  refine W.widen h1 h2 ?_
  exact W.vret F.1.1 F.1.2.1 hr (fun t ht hW => ⟨⟨(), rfl, trivial, (zend F Z ht hW).1⟩, (zend F Z ht hW).2⟩) Z.2.2.2 hd hlocks
end ZK
/-- a constructor's walk from its entry -/
theorem zmets {l : Launch} {y : MethodName} {cc : ByteArray} {nL : Nat} {ret : Option FieldType} {own : String} {rm : Room} {D : va_G} {A0 : Nat} {σ : Mm} {G : Gm} {n mc ms : Nat} {av : List Value} {Qc : Array Value → State → Outcome → State → Prop} (hy : plainName y.cls = true) (hyc : y.cls = own) (hw : (lg_sl av).length ≤ nL)
    (body : ∀ (p : Program) (e : Env) (s : State) (m : MethodId) (below : List Frame) (meth : Method) (c : Code), zx p s m c cc nL av.toArray own D A0 → meth.sig.returnType = ret → meth.locks = false → meth.name = y.name → zh D A0 σ G n s.heap s.heap [] → s.heap.size = A0 + n → ∀ ls, lv_has ls nL (lv_args 0 av) → W p l e rm s m av.toArray below meth c s.heap [] 0 0 (MQ below Qc av.toArray s mc ms (zA A0)) (F0 m 0 ls [])) :
    Met l y (zws y cc nL ret) rm (zPcs D A0 σ G n av) Qc mc ms (zA A0) := by
  refine Met.ofW (cc := cc) (maxL := nL) (ret := ret) hy rfl ?_
  intro p e s m args below meth c s₁ B hml hv
  obtain ⟨rfl, ⟨hP, hK, hRO, hA0⟩, hsz⟩ := hv
  have hts := atoms_spec (ws := zws y cc nL ret) B.pre
  have hown : s.vm.findClass own = some m.cls := by rw [← hyc]; exact findClass_of_methodNamed B.named
  have hl := lv_entry av (n := nL) hw
  rw [lg_entry_eq]
  generalize (lg_sl av ++ List.replicate (nL - (lg_sl av).length) Slot.unset).toArray = ls at hl ⊢
  exact body p e s m below meth c ⟨⟨B.exec, B.bytes, hml, hown, fun w hw => hts w (List.mem_cons_of_mem _ hw)⟩, hK, hRO, hA0⟩ B.returns B.notSynchronized (name_of_methodNamed B.named B.method).1 ⟨hP, va_S.rf⟩ hsz ls hl
theorem zk_outer {cA : ClassId} {h : Nat} {f : Nat → Value} (h0 : f 0 = .ref (h + 1)) (h1 : f 1 = .ref (h + 2)) (h2 : f 2 = .ref (h + 3)) (h3 : ∀ j, 3 ≤ j → f j = .null) : (((zmO cA).setSlot 0 (.ref (h + 1))).setSlot 1 (.ref (h + 2))).setSlot 2 (.ref (h + 3)) = arrV cA 3 f := by
  unfold zmO
  rw [arrV_new, arrV_store, arrV_store, arrV_store]
  congr 1
  funext j
  rcases (show j = 0 ∨ j = 1 ∨ j = 2 ∨ 3 ≤ j by omega) with rfl | rfl | rfl | hj
  · rw [h0]; simp [updV]
  · rw [h1]; simp [updV]
  · rw [h2]; simp [updV]
  · rw [h3 j hj]
    have e0 : j ≠ 0 := by omega
    have e1 : j ≠ 1 := by omega
    have e2 : j ≠ 2 := by omega
    simp [updV, e0, e1, e2]
theorem zk_inner {cI : ClassId} {M : Nat} : zmI cI M = vp_cell cI (M, .inl (fun _ => 0)) := by
  rw [vp_cell_i]
  unfold zmI
  rw [arrV_new]
theorem zk_mna {p : Program} {l : Launch} {e : Env} {R : Room} {s : State} {m : MethodId} {args : Array Value} {below : List Frame} {meth : Method} {c : Code} {H : Heap} {locs : List Loc} {cells slots : Nat} {Q : State → Prop}
    {cc : ByteArray} {nL : Nat} {own : String} {D : va_G} {A0 : Nat} {σ : Mm} {P : Nat → Option (List Nat)} {n n0 : Nat} {pc : Nat} {ls : Array Slot} {rest : List Value}
    (F : zx p s m c cc nL args own D A0) (Z : zhc D A0 σ P n s.heap H locs) (hz0 : s.heap.size = A0 + n0) (hzc : n = n0 + cells) {idx : Nat} (hs : zs n = (56, 3)) (hs1 : ∀ i, i < 3 → zs (n + 1 + i) = (50, 9261)) (hG : ∀ i, i < 3 → GF n i = some (n + 1 + i)) (hG3 : ∀ i, 3 ≤ i → GF n i = none) (hP : P n = none) (hl : Cond.classLink own idx "[[I" ∈ zTB) (harr : Cond.arrayClass .int ∈ zTB) (hcl : cells + 4 ≤ R.cells) (hsl : slots + 27786 ≤ R.slots) (hd : decode cc pc = .ok (.multianewarray idx 2, 4))
    (kk : ∀ (H1 : Heap), zhc D A0 σ P (n + 4) s.heap H1 locs → W p l e R s m args below meth c H1 locs (cells + 4) (slots + 27786) Q (F0 m (pc + 4) ls (.ref (A0 + n) :: rest))) : W p l e R s m args below meth c H locs cells slots Q (F0 m pc ls (.int 9261 :: .int 3 :: rest)) := by
  obtain ⟨⟨hx, hb, -, hown, hts⟩, hK, hO, -⟩ := F
  obtain ⟨Z, h0⟩ := Z
  refine zsized fun hle => ?_
  have hsz := zsz Z hz0 hzc hle
  have n9 : (9261 : Int32).toNatClampNeg = 9261 := rfl
  intro T hT X
  obtain ⟨vm₁, cA, comp, hfA, hfC, X1, st⟩ := zm_step X hx (own := own) (index := idx) hown (hts _ hl) (hO.2.2.2.2.2.2.2.2.2.2.2.2.2) (hts _ harr) (g := F0 m pc ls (.int 9261 :: .int 3 :: rest)) rfl (by rw [hb]; exact hd) (k := 9261) (rest := rest) rfl (by decide) (Nat.le_of_ble_eq_true rfl) hcl (by rw [n9]; omega)
  rw [n9] at X1 st
  rw [show slots + (3 + 3 * 9261) = slots + 27786 by omega] at X1
  have hTs : T.heap.size = A0 + n := by rw [hT]; exact hsz
  obtain ⟨f1, f2, fi, fo⟩ := zmF_at (T := T.setVm vm₁) (cA := cA) (cI := comp) (M := 9261)
  have eT : (T.setVm vm₁).heap = H := hT
  have eS : (T.setVm vm₁).heap.size = A0 + n := hTs
  rw [eS] at f1 f2 fi fo
  rw [eT] at fo
  have ecA : cA = D.1 56 := Option.some.inj (hfA.symm.trans (hK.2 6 _ rfl).2)
  have ecI : comp = D.1 50 := Option.some.inj (hfC.symm.trans (hK.2 0 _ rfl).2)
  rw [hTs] at st
  generalize (zmF (T.setVm vm₁) cA comp 9261).1 = T1 at X1 st f1 f2 fi fo
  have Zn : zhc D A0 σ P (n + 4) s.heap T1.heap locs := by
    refine ⟨⟨fun k q hk => ?_, Nat.le_trans Z.2.1 (by omega), fun q h2 h3 => by rw [fo q (by have := Z.2.1; omega)]; exact Z.2.2.1 q h2 h3, Z.2.2.2⟩, fun a ha => h0 a (by omega)⟩
    obtain ⟨hk2, rfl⟩ := zwl_at hk
    by_cases hk3 : k < n
    · rw [zent_eq (σ := σ) (σ1 := σ) (G := zGx n P) (G1 := zGx (n + 4) P) rfl (zGx_eq hk3 hk2 rfl)]
      exact (Z.1 k _ (zwl_get hk3)).kept (fo _ (by omega))
    · by_cases hkn : k = n
      · subst hkn
        rw [zent_q hs (by decide)]
        show T1.heap[A0 + k]? = some (vp_cell _ _)
        rw [f2, ecA, vp_cell_q]
        have hg : ∀ j, zGx (k + 4) P k j = GF k j := fun j => by
          unfold zGx
          rw [if_pos (by omega), hP]
        refine congrArg some (zk_outer ?_ ?_ ?_ (fun j hj => ?_))
        · rw [hg, hG 0 (by decide)]; rfl
        · rw [hg, hG 1 (by decide)]; rfl
        · rw [hg, hG 2 (by decide)]; rfl
        · rw [hg, hG3 j hj]; rfl
      · obtain ⟨i, hi, rfl⟩ : ∃ i, i < 3 ∧ k = n + 1 + i := ⟨k - (n + 1), by omega, by omega⟩
        rw [zent_i (hs1 i hi) (by decide) (by decide), h0 _ (by omega)]
        show T1.heap[A0 + (n + 1 + i)]? = some (vp_cell _ _)
        rw [show A0 + (n + 1 + i) = A0 + n + 1 + i by omega, fi i hi, ecI, zk_inner]
  obtain ⟨t, a1, b1⟩ := kk T1.heap Zn T1 rfl X1
  exact ⟨t, st t a1, b1⟩
theorem zk_mG : ∀ i, 3 ≤ i → GF 81 i = none := fun i hi => by
  show (if i < 3 then some (82 + i) else none) = none
  rw [if_neg (by omega)]
theorem zGh_80 : ∀ i, (zs 80).2 ≤ i → GF 80 i = none := fun i hi => by
  have hi : 61 ≤ i := hi
  show (if i < 61 then some (85 + 10 * i) else none) = none
  rw [if_neg (by omega)]
theorem zGh_11 : ∀ i, (zs 11).2 ≤ i → GF 11 i = none := fun i hi => by
  have hi : 5 ≤ i := hi
  show (if i < 5 then some (12 + 3 * i) else none) = none
  rw [if_neg (by omega)]
