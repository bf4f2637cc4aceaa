/-! ===== the law's start: what is known of the world ===== -/
theorem zu0 {w : Cond} (i : Nat) (h : tables_1_1[i]? = some w) : w ∈ lw_tbl := by
  have h : w ∈ tables_1_1 := List.mem_of_getElem? h
  exact List.mem_append_right _ (show w ∈ tables_1 from List.mem_append_left _ h)
theorem zu1 {w : Cond} (i : Nat) (h : tables_1_2[i]? = some w) : w ∈ lw_tbl := by
  have h : w ∈ tables_1_2 := List.mem_of_getElem? h
  exact List.mem_append_right _ (show w ∈ tables_1 from List.mem_append_right _ (List.mem_append_left _ h))
theorem zu2 {w : Cond} (i : Nat) (h : tables_1_3[i]? = some w) : w ∈ lw_tbl := by
  have h : w ∈ tables_1_3 := List.mem_of_getElem? h
  exact List.mem_append_right _ (show w ∈ tables_1 from List.mem_append_right _ (List.mem_append_right _ (List.mem_append_left _ h)))
theorem zu4 {w : Cond} (i : Nat) (h : tables_1_5[i]? = some w) : w ∈ lw_tbl := by
  have h : w ∈ tables_1_5 := List.mem_of_getElem? h
  exact List.mem_append_right _ (show w ∈ tables_1 from List.mem_append_right _ (List.mem_append_right _ (List.mem_append_right _ (List.mem_append_right _ (List.mem_append_left _ h)))))
theorem zu6 {w : Cond} (i : Nat) (h : tables_1_7[i]? = some w) : w ∈ lw_tbl := by
  have h : w ∈ tables_1_7 := List.mem_of_getElem? h
  exact List.mem_append_right _ (show w ∈ tables_1 from List.mem_append_right _ (List.mem_append_right _ (List.mem_append_right _ (List.mem_append_right _ (List.mem_append_right _ (List.mem_append_right _ (List.mem_append_left _ h)))))))
def zTm (i : Nat) : Term := match i with
  | 0 => .string "UnsoldPrice$MarketReader" 82
  | 1 => .string "UnsoldPrice$RuleReader" 73
  | 2 => .string "UnsoldPriceModel" 26
  | 3 => .string "UnsoldPriceModel" 266
  | 4 => .string "UnsoldPriceModel" 268
  | _ => .string "UnsoldPriceModel" 270
/-- the classes -/
theorem zw0_cls {s : State} {b : Nat} (htz : ∀ w ∈ zTB, w.before #[Value.ref b] s = true) : ∃ x : Nat → ClassId × (Nat → Nat), ∀ k, ∀ q : vw_C, vwCl[k]? = some q → u_Kn s q.1 q.2.1 q.2.2 (x k).1 (x k).2 := by
  have one : ∀ {C : String} {T : u_T} {N n : Nat}, (∀ w ∈ u_ws C T N, w ∈ zTB) → Cond.instantiable C n ∈ zTB → ∃ x : ClassId × (Nat → Nat), ∀ q : vw_C, some (C, T, N) = some q → u_Kn s q.1 q.2.1 q.2.2 x.1 x.2 := fun hin hi => by
    obtain ⟨cC, iS, h⟩ := u_known (ws := zTB) htz hin (htz _ hi)
    exact ⟨(cC, iS), fun q hq => by cases hq; exact h⟩
  refine Classical.axiomOfChoice (r := fun (k : Nat) (x : ClassId × (Nat → Nat)) => ∀ q : vw_C, vwCl[k]? = some q → u_Kn s q.1 q.2.1 q.2.2 x.1 x.2) (fun k => ?_)
  match k with
  | 0 => exact one zin0 zq125
  | 1 => exact one zin1 zq343
  | 2 => exact one zin2 zq509
  | 3 => exact one zin4 zq196
  | 4 => exact one zin5 zq377
  | 5 => exact one zin6 zq296
  | 6 => exact one zin7 zq450
  | 7 => exact one zin8 zq213
  | 8 => exact one zin9 zq110
  | 9 => exact one zin10 zq390
  | 10 => exact one zin11 zq102
  | 11 => exact one zin12 zq1243
  | k + 12 => exact ⟨(0, fun _ => 0), fun q hq => by simp [vwCl] at hq⟩
/-- the classes of rows -/
theorem zw0_prim {s : State} {b : Nat} (htz : ∀ w ∈ zTB, w.before #[Value.ref b] s = true) {ty : FieldType} (h : Cond.arrayClass ty ∈ zTB) : ∃ cA : ClassId, ArrOfT s cA ty ∧ s.vm.findClass ("[" ++ ty.toString) = some cA := by
  obtain ⟨cA, kA, comp, h1, h2, h3⟩ := Cond.arrayClass_spec (args := #[Value.ref b]) (first := s) (o := none) (s := s) (idx := []) (type := ty) (htz _ h)
  exact ⟨cA, fun N z => ⟨(fun k h => by cases h), kA, h2, comp, h3⟩, h1⟩
theorem zw0_obj {s : State} {C : String} (h : va_AO C s) : ∃ cA : ClassId, ArrOfT s cA (.object C) ∧ va_RA s cA (.object C) := by
  obtain ⟨comp, cA, kA, h1, h2, h3, h4, h5⟩ := Cond.arrayOver_spec h
  exact ⟨cA, fun N z => ⟨(fun k h => by cases h), kA, h3, comp, h4⟩, kA, comp, h3, h4, h1, h5⟩
theorem zw0_arr {s : State} (h : zAOA s) : ∃ cA : ClassId, ArrOfT s cA (.array .int) ∧ s.vm.findClass ("[" ++ (FieldType.array FieldType.int).toString) = some cA := by
  obtain ⟨comp, cA, kA, h1, h3, h4, h5⟩ := h.spec
  exact ⟨cA, fun N z => ⟨(fun k h => by cases h), kA, h3, comp, h4⟩, h5⟩
/-- the given rows -/
theorem zw0_rows {s : State} {b : Nat} (hts : ∀ w ∈ lw_tbl, w.before #[Value.ref b] s = true) (hgv : (Jvm.Cond.and given_1 narrow_1).before #[Value.ref b] s = true) (hA : ∀ a : Nat, a < s.heap.size → ¬ zA s.heap.size a) :
    ∃ z : Nat → Nat, ∀ i, i < 4 → va_Z "UnsoldPrice" (zStN.getD i "") "[I" (.ref (z i)) (zA s.heap.size) s s.heap ∧ va_T .int (z i) (zStV.getD i []).length (fun j => .int ((zStV.getD i []).getD j 0)) (zA s.heap.size) s s.heap := by
  have hs := flat_of_before _ hgv
  refine Classical.axiomOfChoice (r := fun (i : Nat) (z : Nat) => i < 4 → va_Z "UnsoldPrice" (zStN.getD i "") "[I" (.ref z) (zA s.heap.size) s s.heap ∧ va_T .int z (zStV.getD i []).length (fun j => .int ((zStV.getD i []).getD j 0)) (zA s.heap.size) s s.heap) (fun i => ?_)
  by_cases hi : i < 4
  case neg => exact ⟨0, fun h => absurd h hi⟩
  have hN : (zStV.getD i []).length < 2 ^ 31 := (by decide +kernel : ∀ i, i < 4 → (zStV.getD i []).length < 2 ^ 31) i hi
  have harr : (Cond.arrayOf (.static "UnsoldPrice" (zStN.getD i "") "[I") .int).before #[Value.ref b] s = true := hs _ ((by decide +kernel : ∀ i, i < 4 → Cond.arrayOf (.static "UnsoldPrice" (zStN.getD i "") "[I") .int ∈ _) i hi)
  have hlen : (Cond.eq (.length (.static "UnsoldPrice" (zStN.getD i "") "[I")) (.int (Int32.ofNat (zStV.getD i []).length))).before #[Value.ref b] s = true := hs _ ((by decide +kernel : ∀ i, i < 4 → Cond.eq (.length (.static "UnsoldPrice" (zStN.getD i "") "[I")) (.int (Int32.ofNat (zStV.getD i []).length)) ∈ _) i hi)
  have hel : ∀ j, j < (zStV.getD i []).length → (Cond.eq (.elem (.static "UnsoldPrice" (zStN.getD i "") "[I") (.int (Int32.ofNat j))) (.int ((zStV.getD i []).getD j 0))).before #[Value.ref b] s = true := fun j hj => hs _ ((by decide +kernel : ∀ i, i < 4 → ∀ j, j < (zStV.getD i []).length → Cond.eq (.elem (.static "UnsoldPrice" (zStN.getD i "") "[I") (.int (Int32.ofNat j))) (.int ((zStV.getD i []).getD j 0)) ∈ _) i hi j hj)
  obtain ⟨t, ht, hT⟩ := va_Tof (tm := .static "UnsoldPrice" (zStN.getD i "") "[I") (f := fun j => .int ((zStV.getD i []).getD j 0)) (A := zA s.heap.size) hN harr (va_eqt hlen) (fun j hj => va_eqt (hel j hj)) hA
  have hl : (Cond.laysStatic "UnsoldPrice" (zStN.getD i "") "[I").before #[Value.ref b] s = true := by
    rcases (show i = 0 ∨ i = 1 ∨ i = 2 ∨ i = 3 by omega) with rfl | rfl | rfl | rfl
    · exact hts _ (zu2 108 rfl)
    · exact hts _ (zu2 157 rfl)
    · exact hts _ (zu2 159 rfl)
    · exact hts _ (zu2 64 rfl)
  exact ⟨t, fun _ => ⟨va_Zref hl (hts _ (zu0 1 rfl)) ht hA, hT⟩⟩
/-- the Strings -/
theorem zw0_strs {s : State} {b : Nat} (hts : ∀ w ∈ lw_tbl, w.before #[Value.ref b] s = true) (hgv : (Jvm.Cond.and given_1 narrow_1).before #[Value.ref b] s = true) (hA : ∀ a : Nat, a < s.heap.size → ¬ zA s.heap.size a) :
    ∃ adK adV : Nat → Nat, vk_S 6 zLen zByt adK adV (zA s.heap.size) s s.heap ∧ ∀ q ∈ zStrs, vk_R q.1 q.2.1 q.2.2.1 (adK q.2.2.2) s := by
  have hs := flat_of_before _ hgv
  obtain ⟨adK, adV, hS, hev⟩ := vk_Sof (args := #[Value.ref b]) (s := s) (N := 6) (tm := zTm) (len := zLen) (byt := zByt) (A := zA s.heap.size)
    (by decide +kernel)
    (fun i hi => hs _ ((by decide +kernel : ∀ i, i < 6 → Cond.exactly (zTm i) "java/lang/String" ∈ _) i hi))
    (fun i hi => hs _ ((by decide +kernel : ∀ i, i < 6 → Cond.eq (.field (zTm i) "java/lang/String" "coder" "B") (.int 0) ∈ _) i hi))
    (fun i hi => hs _ ((by decide +kernel : ∀ i, i < 6 → Cond.arrayOf (.field (zTm i) "java/lang/String" "value" "[B") .byte ∈ _) i hi))
    (fun i hi => hs _ ((by decide +kernel : ∀ i, i < 6 → Cond.eq (.length (.field (zTm i) "java/lang/String" "value" "[B")) (.int (Int32.ofNat (zLen.getD i 0))) ∈ _) i hi))
    (fun i hi j hj => hs _ ((by decide +kernel : ∀ i, i < 6 → ∀ j, j < zLen.getD i 0 → Cond.eq (.elem (.field (zTm i) "java/lang/String" "value" "[B") (.int (Int32.ofNat j))) (.int ((zByt.getD i []).getD j 0)) ∈ _) i hi j hj))
    (fun i j hi hj hij => by
      have key : ∀ i j, i < 6 → j < 6 → i < j → (Cond.not (Cond.eq (zTm i) (zTm j))).before #[Value.ref b] s = true := fun i j hi hj h => hs _ ((by decide +kernel : ∀ j, j < 6 → ∀ i, i < j → Cond.not (Cond.eq (zTm i) (zTm j)) ∈ _) j hj i h)
      rcases Nat.lt_or_gt_of_ne hij with h | h
      · exact Or.inl (key i j hi hj h)
      · exact Or.inr (key j i hj hi h))
    hA
  refine ⟨adK, adV, hS, ?_⟩
  have hm : (Cond.eq (.string "UnsoldPrice$RuleReader" 73) (.string "UnsoldPriceModel" 32)).before #[Value.ref b] s = true := hs _ (by decide +kernel)
  exact List.forall_mem_cons.mpr ⟨vk_R.of (hts _ (zu2 93 rfl)) (hev 0 (by decide)), List.forall_mem_cons.mpr ⟨vk_R.of (hts _ (zu2 219 rfl)) (hev 1 (by decide)), List.forall_mem_cons.mpr ⟨vk_R.of (hts _ (zu4 212 rfl)) (hev 2 (by decide)),
    List.forall_mem_cons.mpr ⟨vk_R.of (hts _ (zu4 213 rfl)) (va_eqR hm (hev 1 (by decide))), List.forall_mem_cons.mpr ⟨vk_R.of (hts _ (zu6 6 rfl)) (hev 3 (by decide)), List.forall_mem_cons.mpr ⟨vk_R.of (hts _ (zu6 7 rfl)) (hev 4 (by decide)),
    List.forall_mem_cons.mpr ⟨vk_R.of (hts _ (zu6 8 rfl)) (hev 5 (by decide)), fun _ h => absurd h List.not_mem_nil⟩⟩⟩⟩⟩⟩⟩
theorem zw0_nf {s : State} {b : Nat} (hts : ∀ w ∈ lw_tbl, w.before #[Value.ref b] s = true) : (∀ q ∈ zNF, va_Nw (.fieldLinkNest q.1 q.2.1 "UnsoldPrice" q.2.2 "[I" "UnsoldPrice") s) ∧ (∀ q ∈ zNM, va_Nw (.methodLinkNest q.1 q.2.1 q.2.2 "UnsoldPrice") s) ∧ (∀ x ∈ zND, va_Nw (.declares x) s) := by
  have hn : ∀ {w : Cond}, w ∈ lw_tbl → w.onTables = true → va_Nw w s := fun h g => va_Nw.of g (hts _ h)
  refine ⟨?_, ?_, ?_⟩
  · exact List.forall_mem_cons.mpr ⟨hn (zu2 63 rfl) rfl, List.forall_mem_cons.mpr ⟨hn (zu2 92 rfl) rfl, List.forall_mem_cons.mpr ⟨hn (zu2 107 rfl) rfl, List.forall_mem_cons.mpr ⟨hn (zu2 156 rfl) rfl, List.forall_mem_cons.mpr ⟨hn (zu2 158 rfl) rfl, fun _ h => absurd h List.not_mem_nil⟩⟩⟩⟩⟩
  · exact List.forall_mem_cons.mpr ⟨hn (zu0 35 rfl) rfl, List.forall_mem_cons.mpr ⟨hn (zu0 50 rfl) rfl, List.forall_mem_cons.mpr ⟨hn (zu0 121 rfl) rfl, List.forall_mem_cons.mpr ⟨hn (zu0 138 rfl) rfl, List.forall_mem_cons.mpr ⟨hn (zu1 80 rfl) rfl, List.forall_mem_cons.mpr ⟨hn (zu1 143 rfl) rfl, fun _ h => absurd h List.not_mem_nil⟩⟩⟩⟩⟩⟩
  · exact List.forall_mem_cons.mpr ⟨hn (zu2 55 rfl) rfl, List.forall_mem_cons.mpr ⟨hn (zu2 71 rfl) rfl, List.forall_mem_cons.mpr ⟨hn (zu2 84 rfl) rfl, List.forall_mem_cons.mpr ⟨hn (zu2 152 rfl) rfl, List.forall_mem_cons.mpr ⟨hn (zu2 174 rfl) rfl, List.forall_mem_cons.mpr ⟨hn (zu4 148 rfl) rfl, List.forall_mem_cons.mpr ⟨hn (zu4 150 rfl) rfl, List.forall_mem_cons.mpr ⟨hn (zu4 152 rfl) rfl, fun _ h => absurd h List.not_mem_nil⟩⟩⟩⟩⟩⟩⟩⟩
theorem world_0 {s : State} {b : Nat} (hts : ∀ w ∈ lw_tbl, w.before #[Value.ref b] s = true) (hgv : (Jvm.Cond.and given_1 narrow_1).before #[Value.ref b] s = true) : ∃ D : va_G, va_K D vwCl (zTY D) s ∧ zRO D s.heap.size s := by
  have htz : ∀ w ∈ zTB, w.before #[Value.ref b] s = true := fun w hw => hts w (List.mem_filter.mp hw).1
  have hA : ∀ a : Nat, a < s.heap.size → ¬ zA s.heap.size a := fun a h => Nat.not_le.mpr h
  have hs := flat_of_before _ hgv
  have oR : va_AO "UnsoldPrice$Rule" s := va_AO.of (hts _ (zu0 119 rfl))
  have oS : va_AO "UnsoldPrice$State" s := va_AO.of (hts _ (zu1 140 rfl))
  have oA : zAOA s := zAOA.of (hts _ (zu1 142 rfl))
  obtain ⟨x, hx⟩ := zw0_cls htz
  obtain ⟨c0, a0, r0⟩ := zw0_prim htz zq123
  obtain ⟨c1, a1, r1⟩ := zw0_prim htz zq375
  obtain ⟨c2, a2, r2⟩ := zw0_prim htz zq793
  obtain ⟨c3, a3, r3⟩ := zw0_prim htz zq1854
  obtain ⟨c4, a4, r4⟩ := zw0_obj oS
  obtain ⟨c5, a5, r5⟩ := zw0_obj oR
  obtain ⟨c6, a6, r6⟩ := zw0_arr oA
  obtain ⟨z, hz⟩ := zw0_rows hts hgv hA
  obtain ⟨adK, adV, hS, hR⟩ := zw0_strs hts hgv hA
  obtain ⟨n1, n2, n3⟩ := zw0_nf hts
  refine ⟨(fun k => if k < 12 then (x k).1 else if k < 57 then [c0, c1, c2, c3, c4, c5, c6].getD (k - 50) 0 else if k < 70 then adK (k - 60) else if k < 74 then z (k - 70) else adV (k - 80), fun k => (x k).2), ⟨fun k q hq => ?_, fun k q hq => ?_⟩, fun i hi => ?_, ?_, fun q hq => ?_, n1, n2, n3, oR, oS, ?_, ?_, ?_, ?_, ?_, oA⟩
  · have hk : k < 12 := (List.getElem?_eq_some_iff.mp hq).1
    show u_Kn s q.1 q.2.1 q.2.2 (if k < 12 then (x k).1 else _) (x k).2
    rw [if_pos hk]
    exact hx k q hq
  · match k, hq with
    | 0, hq => cases hq; exact ⟨a0, r0⟩
    | 1, hq => cases hq; exact ⟨a1, r1⟩
    | 2, hq => cases hq; exact ⟨a2, r2⟩
    | 3, hq => cases hq; exact ⟨a3, r3⟩
    | 4, hq => cases hq; exact ⟨a4, r4⟩
    | 5, hq => cases hq; exact ⟨a5, r5⟩
    | 6, hq => cases hq; exact ⟨a6, r6⟩
    | k + 7, hq => simp [zTY] at hq
  · have e : (if 70 + i < 12 then (x (70 + i)).1 else if 70 + i < 57 then [c0, c1, c2, c3, c4, c5, c6].getD (70 + i - 50) 0 else if 70 + i < 70 then adK (70 + i - 60) else if 70 + i < 74 then z (70 + i - 70) else adV (70 + i - 80)) = z i := by
      rw [if_neg (by omega), if_neg (by omega), if_neg (by omega), if_pos (by omega), Nat.add_sub_cancel_left]
    dsimp only
    rw [e]
    exact hz i hi
  · have e1 : ∀ i, i < 6 → (if 60 + i < 12 then (x (60 + i)).1 else if 60 + i < 57 then [c0, c1, c2, c3, c4, c5, c6].getD (60 + i - 50) 0 else if 60 + i < 70 then adK (60 + i - 60) else if 60 + i < 74 then z (60 + i - 70) else adV (60 + i - 80)) = adK i := fun i hi => by
      rw [if_neg (by omega), if_neg (by omega), if_pos (by omega), Nat.add_sub_cancel_left]
    have e2 : ∀ i, i < 6 → (if 80 + i < 12 then (x (80 + i)).1 else if 80 + i < 57 then [c0, c1, c2, c3, c4, c5, c6].getD (80 + i - 50) 0 else if 80 + i < 70 then adK (80 + i - 60) else if 80 + i < 74 then z (80 + i - 70) else adV (80 + i - 80)) = adV i := fun i hi => by
      rw [if_neg (by omega), if_neg (by omega), if_neg (by omega), if_neg (by omega), Nat.add_sub_cancel_left]
    refine ⟨fun i hi => ?_, fun i j hi hj e => ?_⟩
    · have h := hS.1 i hi
      dsimp only
      rw [e1 i hi, e2 i hi]
      exact h
    · dsimp only at e
      rw [e1 i hi, e1 j hj] at e
      exact hS.2 i j hi hj e
  · have hq6 : q.2.2.2 < 6 := (by decide +kernel : ∀ q ∈ zStrs, q.2.2.2 < 6) q hq
    have e : (if 60 + q.2.2.2 < 12 then (x (60 + q.2.2.2)).1 else if 60 + q.2.2.2 < 57 then [c0, c1, c2, c3, c4, c5, c6].getD (60 + q.2.2.2 - 50) 0 else if 60 + q.2.2.2 < 70 then adK (60 + q.2.2.2 - 60) else if 60 + q.2.2.2 < 74 then z (60 + q.2.2.2 - 70) else adV (60 + q.2.2.2 - 80)) = adK q.2.2.2 := by
      rw [if_neg (by omega), if_neg (by omega), if_pos (by omega), Nat.add_sub_cancel_left]
    dsimp only
    rw [e]
    exact hR q hq
  · exact va_Zof (hts _ (zu2 103 rfl)) (hts _ (zu0 15 rfl)) (va_eqt (hs (Cond.eq (.static "java/lang/String" "COMPACT_STRINGS" "Z") (.int 1)) (by decide +kernel))) hA
  · exact va_Zqof (hts _ (zu2 127 rfl)) (hts _ (zu0 17 rfl)) (hs _ (by decide +kernel)) hA
  · exact va_Nw.of rfl (hts _ (zu4 147 rfl))
  · exact vx_Zqof (hts _ (zu4 172 rfl)) (hts _ (zu0 19 rfl)) (hs _ (by decide +kernel)) hA
  · exact vx_Zqof (hts _ (zu4 174 rfl)) (hts _ (zu0 19 rfl)) (hs _ (by decide +kernel)) hA
