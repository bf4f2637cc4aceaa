/-! ===== memory: what the cells hold, by their numbers in the order of their making ===== -/
abbrev Mm : Type := Nat → Nat → Int32
abbrev Gm : Type := Nat → Nat → Option Nat
/-- the place k of the cell c holds v now -/
def zst (σ : Mm) (c k : Nat) (v : Int32) : Mm := fun a => if a = c then upd (σ c) k v else σ a
theorem zst_s {σ : Mm} {c k : Nat} {v : Int32} : zst σ c k v c = upd (σ c) k v := if_pos rfl
theorem zst_n {σ : Mm} {c k a : Nat} {v : Int32} (h : a ≠ c) : zst σ c k v a = σ a := if_neg h
/-- a long by its halves -/
def zj (hi lo : Int32) : Int64 := Int64.ofBitVec (hi.toBitVec ++ lo.toBitVec)
def zjh (x : Int64) : Int32 := Int32.ofBitVec (x.toBitVec.extractLsb' 32 32)
def zjl (x : Int64) : Int32 := Int32.ofBitVec (x.toBitVec.extractLsb' 0 32)
theorem zj_eq (x : Int64) : zj (zjh x) (zjl x) = x := by
  unfold zj zjh zjl
  apply Int64.toBitVec_inj.mp
  rw [Int64.toBitVec_ofBitVec, Int32.toBitVec_ofBitVec, Int32.toBitVec_ofBitVec]
  apply BitVec.eq_of_getLsbD_eq
  intro i hi
  rw [BitVec.getLsbD_append]
  by_cases h : i < 32
  · simp [h]
  · simp [h]
    rw [show 32 + (i - 32) = i by omega]
    have h9 : i - 32 < 32 := by omega
    simp [h9]
def zstL (σ : Mm) (c k : Nat) (x : Int64) : Mm := zst (zst σ c k (zjh x)) c (k + 200) (zjl x)
def zgs (G : Gm) (c k b : Nat) : Gm := fun a => if a = c then va_up (G c) k (some b) else G a
/-! own words for steps of a method's meaning -/
def lt {α β : Sort _} (e : α) (k : α → β) : β := k e
def bd {α β : Type} (o : Option α) (k : α → Option β) : Option β := match o with | none => none | some x => k x
def ck {β : Type} (c : Prop) [Decidable c] (o : Option β) : Option β := if c then o else none
theorem lt_w {α : Sort _} {β : Sort _} {e : α} {k : α → β} {o : β} (h : lt e k = o) {x : α} (hx : x = e) : k x = o := by subst hx; exact h
theorem lt_x {α : Sort _} {β : Sort _} {e : α} {k : α → β} {o : β} (h : lt e k = o) : ∃ x, x = e ∧ k x = o := ⟨e, rfl, h⟩
theorem bd_x {α β : Type} {o : Option α} {k : α → Option β} {r : β} (h : bd o k = some r) : ∃ x, o = some x ∧ k x = some r := by
  cases o with
  | none => cases h
  | some x => exact ⟨x, rfl, h⟩
theorem ck_x {β : Type} {c : Prop} [Decidable c] {o : Option β} {r : β} (h : ck c o = some r) : c ∧ o = some r := by
  unfold ck at h
  by_cases hc : c
  · rw [if_pos hc] at h; exact ⟨hc, h⟩
  · rw [if_neg hc] at h; cases h
theorem lt_eq {α : Sort _} {β : Sort _} (e : α) (k : α → β) : lt e k = k e := rfl
theorem bd_some {α β : Type} (x : α) (k : α → Option β) : bd (some x) k = k x := rfl
theorem bd_none {α β : Type} (k : α → Option β) : bd none k = none := rfl
theorem ck_t {β : Type} {c : Prop} [Decidable c] (h : c) (o : Option β) : ck c o = o := if_pos h
/-- an index within a row -/
abbrev inb (x : Int32) (n : Nat) : Prop := 0 ≤ x.toInt ∧ x.toInt < n
abbrev ix (x : Int32) : Nat := x.toNatClampNeg
/-- 0 or 1 -/
abbrev zbo (x : Int32) : Prop := x = 0 ∨ x = 1
def zmax (x y : Int32) : Int32 := if x < y then y else x
def zmin (x y : Int32) : Int32 := if y < x then y else x
def zmaxL (x y : Int64) : Int64 := if y < x then x else y
def zminL (x y : Int64) : Int64 := if y < x then y else x
/-! how often a loop may turn, how deep a recursion may go -/
def NF : Nat := 20000
def RD : Nat := 14
theorem inb_vp {x : Int32} {n : Nat} (h : inb x n) : vp_in x n := vp_in_iff.mpr h
/-! ===== the strings and the rows that are given ===== -/
def zLen : List Nat := [8, 6, 1, 3, 3, 2]
def zByt : List (List Int32) := [[110, 99, 114, 118, 109, 119, 113, 102], [112, 103, 99, 100, 117, 119], [121], [110, 99, 114], [118, 109, 119], [113, 102]]
def zStrs : List (String × Nat × String × Nat) := [("UnsoldPrice$MarketReader", 82, "ncrvmwqf", 0), ("UnsoldPrice$RuleReader", 73, "pgcduw", 1), ("UnsoldPriceModel", 26, "y", 2), ("UnsoldPriceModel", 32, "pgcduw", 1), ("UnsoldPriceModel", 266, "ncr", 3), ("UnsoldPriceModel", 268, "vmw", 4), ("UnsoldPriceModel", 270, "qf", 5)]
def zStN : List String := ["FIRST_ITEM", "ITEM_LOW", "ITEM_HIGH", "ITEM_USUAL"]
def zStV : List (List Int32) := [[0, 3, 6, 8], [0, 0, 0, 0, 1, 0, 0, 0], [9, 20, 9, 20, 9, 3, 2, 20], [3, 1, 0, 10, 2, 0, 0, 12]]
def zA (A0 : Nat) : Nat → Prop := fun q => A0 ≤ q
def zNF : List (String × Nat × String) := [("UnsoldPrice$Market", 44, "ITEM_USUAL"), ("UnsoldPrice$MarketReader", 79, "ITEM_USUAL"), ("UnsoldPrice$MarketReader", 103, "FIRST_ITEM"), ("UnsoldPrice$MarketReader", 97, "ITEM_LOW"), ("UnsoldPrice$MarketReader", 100, "ITEM_HIGH")]
def zNM : List (String × Nat × MethodName) := [("UnsoldPrice", 9, yX9_init), ("UnsoldPrice", 12, yX0_init), ("UnsoldPrice", 17, yX4_init), ("UnsoldPrice", 20, yX8_init), ("UnsoldPrice$Walk", 11, yX8_init), ("UnsoldPrice$Search", 34, yX8_init)]
def zND : List MethodName := [yX3_beginReading, yX3_sign, yX3_wrong, yX3_number, yX3_take, ⟨"java/lang/RuntimeException", "<init>", "()V"⟩, ⟨"java/lang/Exception", "<init>", "()V"⟩, ⟨"java/lang/Throwable", "<init>", "()V"⟩]
def zNS : String := "java/util/NoSuchElementException"
/-- the class of rows of rows of ints is known -/
def zAOA (U : State) : Prop := (Cond.arrayOver (.array .int)).before #[] U = true
theorem zAOA.moved {u U : State} (hvm : u.vm.Alike U.vm) (h : zAOA u) : zAOA U := (Cond.arrayOver_setVmC (args := #[]) (s := u) (vm' := U.vm) hvm (.array .int)).trans h
theorem zAOA.use {A : Array Value} {U : State} (h : zAOA U) : (Cond.arrayOver (.array .int)).before A U = true := h
theorem zAOA.of {A : Array Value} {U : State} (h : (Cond.arrayOver (.array .int)).before A U = true) : zAOA U := h
def zRO (D : va_G) (A0 : Nat) (U : State) : Prop :=
  (∀ i, i < 4 → va_Z "UnsoldPrice" (zStN.getD i "") "[I" (.ref (D.1 (70 + i))) (zA A0) U U.heap ∧ va_T .int (D.1 (70 + i)) (zStV.getD i []).length (fun j => .int ((zStV.getD i []).getD j 0)) (zA A0) U U.heap) ∧
  vk_S 6 zLen zByt (fun i => D.1 (60 + i)) (fun i => D.1 (80 + i)) (zA A0) U U.heap ∧ (∀ q ∈ zStrs, vk_R q.1 q.2.1 q.2.2.1 (D.1 (60 + q.2.2.2)) U) ∧
  (∀ q ∈ zNF, va_Nw (.fieldLinkNest q.1 q.2.1 "UnsoldPrice" q.2.2 "[I" "UnsoldPrice") U) ∧ (∀ q ∈ zNM, va_Nw (.methodLinkNest q.1 q.2.1 q.2.2 "UnsoldPrice") U) ∧ (∀ x ∈ zND, va_Nw (.declares x) U) ∧ va_AO "UnsoldPrice$Rule" U ∧ va_AO "UnsoldPrice$State" U ∧
  va_Z "java/lang/String" "COMPACT_STRINGS" "Z" (.int 1) (zA A0) U U.heap ∧ va_Zq "jdk/internal/util/Preconditions" "SIOOBE_FORMATTER" "Ljava/util/function/BiFunction;" (zA A0) U U.heap ∧
  va_Nw (.castable zNS zNS) U ∧ vx_Zq Bundle.tN "UNASSIGNED_STACK" Bundle.steD (zA A0) U U.heap ∧ vx_Zq Bundle.tN "SUPPRESSED_SENTINEL" Bundle.listD (zA A0) U U.heap ∧ zAOA U
theorem zRO.on {D : va_G} {A0 : Nat} {s t : State} (h : zRO D A0 s) (hW : s.WarmedH t.vm) (hq : ∀ a : Nat, a < s.heap.size → ¬ zA A0 a → t.heap[a]? = s.heap[a]?) : zRO D A0 t := by
  obtain ⟨h1, h2, h3, h4, h5, h6, h7, h8, h9, h10, h11, h12, h13, h14⟩ := h
  have hvm : s.vm.Alike t.vm := hW.alike
  refine ⟨fun i hi => ⟨((h1 i hi).1.moved hvm).kept hq, ((h1 i hi).2.moved hvm).kept hq⟩, (h2.moved hvm).kept hq, fun q hq => vk_R.warm hW (h3 q hq), fun q hq => va_Nw.warmF hW (h4 q hq), fun q hq => va_Nw.warmM hW (h5 q hq), fun x hq => va_Nw.warmD hW (h6 x hq), h7.moved hvm, h8.moved hvm, (h9.moved hvm).kept hq, (va_Zq.moved hvm h10).kept hq, va_Nw.warmC hW h11, (vx_Zq.moved hvm h12).kept hq, (vx_Zq.moved hvm h13).kept hq, h14.moved hvm⟩
theorem zRO.same {D : va_G} {A0 : Nat} {U : State} {g : JFrame} {mk : MethodId} {a : Array Value} (h : zRO D A0 U) : zRO D A0 (U.calling g mk a) := by
  obtain ⟨h1, h2, h3, h4, h5, h6, h7, h8, h9, h10, h11, h12, h13, h14⟩ := h
  refine ⟨fun i hi => ⟨va_Z.moved (u := U) (Vm.Alike.refl U.vm) (h1 i hi).1, va_T.moved (u := U) (Vm.Alike.refl U.vm) (h1 i hi).2⟩, vk_S.moved (u := U) (Vm.Alike.refl U.vm) h2, fun q hq => vk_R.same (u := U) rfl (h3 q hq), fun q hq => va_Nw.same rfl (u := U) rfl (h4 q hq), fun q hq => va_Nw.same rfl (u := U) rfl (h5 q hq), fun x hq => va_Nw.same rfl (u := U) rfl (h6 x hq), va_AO.moved (u := U) (Vm.Alike.refl U.vm) h7, va_AO.moved (u := U) (Vm.Alike.refl U.vm) h8, va_Z.moved (u := U) (Vm.Alike.refl U.vm) h9, va_Zq.moved (u := U) (Vm.Alike.refl U.vm) h10, va_Nw.same rfl (u := U) rfl h11, vx_Zq.moved (u := U) (Vm.Alike.refl U.vm) h12, vx_Zq.moved (u := U) (Vm.Alike.refl U.vm) h13, zAOA.moved (u := U) (Vm.Alike.refl U.vm) h14⟩
/-! ===== the cells: kind and length (or number of fields), by their numbers ===== -/
def zsA : List (Nat × Nat) := [(10, 17), (8, 2), (50, 160), (0, 12), (50, 6), (50, 6), (50, 6), (50, 6), (50, 6), (50, 6), (50, 6), (55, 5), (3, 3), (50, 320), (50, 160), (3, 3), (50, 320), (50, 160), (3, 3), (50, 320), (50, 160), (3, 3), (50, 320), (50, 160), (3, 3), (50, 320), (50, 160), (7, 14), (50, 6), (50, 6), (50, 6), (50, 6), (50, 6), (50, 6), (50, 24), (50, 6), (50, 6), (5, 11), (50, 6), (50, 6), (50, 6), (50, 6), (50, 6), (1, 5), (50, 8), (51, 8), (4, 4), (0, 12), (50, 6), (50, 6), (50, 6), (50, 6), (50, 6), (50, 6), (50, 6), (3, 3), (50, 320), (50, 160), (7, 14), (50, 6), (50, 6), (50, 6), (50, 6), (50, 6), (50, 6), (50, 24), (50, 6), (50, 6), (9, 14), (7, 14), (50, 6), (50, 6), (50, 6), (50, 6), (50, 6), (50, 6), (50, 24), (50, 6), (50, 6), (6, 14), (54, 61), (56, 3), (50, 9261), (50, 9261), (50, 9261)]
def zsS : List (Nat × Nat) := [(7, 14), (50, 6), (50, 6), (50, 6), (50, 6), (50, 6), (50, 6), (50, 24), (50, 6), (50, 6)]
def zsB : List (Nat × Nat) := [(2, 4), (50, 20), (50, 20), (50, 20), (2, 4), (50, 60), (50, 60), (50, 60), (11, 74), (52, 160), (52, 800), (50, 5), (50, 128), (50, 15), (50, 18), (50, 2), (50, 15), (50, 18), (50, 2), (50, 57), (50, 57), (50, 5), (50, 5), (50, 6), (50, 6), (50, 6), (50, 24), (50, 6), (50, 6), (50, 6), (50, 61), (51, 61), (50, 2135), (50, 57), (50, 57), (50, 57), (50, 20), (50, 20), (50, 60), (50, 60), (50, 60), (50, 627), (50, 57), (50, 5), (53, 1)]
def zs (a : Nat) : Nat × Nat := if a < 85 then zsA.getD a (99, 0) else if a < 695 then zsS.getD ((a - 85) % 10) (99, 0) else zsB.getD (a - 695) (99, 0)
/-- what a field of a class holds: 0 an int, 1 a long, 2 a cell, 3 a cell that changes, 4 a String -/
def zkT : List (List Nat) := [[0, 0, 0, 0, 0, 2, 2, 2, 2, 2, 2, 2], [2, 0, 0, 2, 2], [2, 2, 2, 0], [2, 2, 0], [2, 0, 0, 3], [2, 2, 2, 2, 0, 0, 0, 2, 0, 2, 2], [2, 2, 2, 2, 0, 0, 0, 0, 0, 0, 0, 0, 2, 0], [0, 0, 0, 0, 1, 2, 2, 2, 2, 2, 2, 2, 2, 2], [2, 0], [2, 2, 2, 2, 0, 0, 0, 0, 0, 0, 0, 0, 0, 0], [2, 2, 2, 2, 2, 2, 2, 2, 2, 2, 2, 2, 2, 2, 0, 0, 0], [0, 2, 2, 2, 2, 3, 0, 0, 0, 0, 0, 0, 0, 0, 0, 4, 4, 0, 2, 2, 2, 2, 2, 2, 0, 0, 0, 0, 0, 2, 2, 2, 0, 0, 1, 2, 2, 2, 2, 2, 2, 0, 0, 0, 0, 0, 0, 2, 2, 2, 2, 2, 0, 0, 2, 2, 2, 0, 0, 0, 2, 2, 0, 2, 2, 2, 0, 0, 2, 2, 2, 0, 1, 0]]
def zk (ci k : Nat) : Nat := (zkT.getD ci []).getD k 9
def zGT : List (Nat × List (Nat × Nat)) := [(0, [(0, 1), (1, 43), (2, 46), (3, 3), (4, 47), (5, 11), (6, 55), (7, 27), (8, 58), (9, 37), (10, 68), (11, 79), (12, 695), (13, 699)]), (1, [(0, 2)]), (37, [(0, 3), (1, 11), (2, 38), (3, 39), (7, 40), (9, 41), (10, 42)]), (43, [(0, 1), (3, 44), (4, 45)]), (46, [(0, 1)]), (68, [(0, 3), (1, 37), (2, 27), (3, 69)]), (79, [(0, 3), (1, 37), (2, 27), (3, 80), (12, 81)]), (703, [(1, 704), (2, 705), (3, 706), (4, 707), (18, 708), (19, 709), (20, 710), (21, 711), (22, 712), (23, 713), (29, 714), (30, 715), (31, 716), (35, 717), (36, 718), (37, 719), (38, 720), (39, 721), (40, 722), (47, 723), (48, 724), (49, 725), (50, 726), (51, 727), (54, 728), (55, 729), (56, 730), (60, 731), (61, 732), (63, 733), (64, 734), (65, 735), (68, 736), (69, 737), (70, 738)])]
/-- the cells' links, as they are once all is made -/
def GF (a k : Nat) : Option Nat :=
  if (zs a).1 = 7 then (if 5 ≤ k ∧ k ≤ 13 then some (a + (k - 4)) else none)
  else if (zs a).1 = 0 then (if 5 ≤ k ∧ k ≤ 11 then some (a + (k - 4)) else none)
  else if (zs a).1 = 3 then (if k < 2 then some (a + (k + 1)) else none)
  else if (zs a).1 = 2 then (if k < 3 then some (a + (k + 1)) else none)
  else if a = 11 then (if k < 5 then some (12 + 3 * k) else none)
  else if a = 80 then (if k < 61 then some (85 + 10 * k) else none)
  else if a = 81 then (if k < 3 then some (82 + k) else none)
  else if a = 703 then (if k = 15 then some 2 else if k = 16 then some 1 else ((zGT.lookup a).getD []).lookup k)
  else ((zGT.lookup a).getD []).lookup k
/-! ===== the world ===== -/
def zfv (D : va_G) (A0 : Nat) (σ : Mm) (G : Gm) (ci a k : Nat) : Value :=
  if zk ci k = 0 then .int (σ a k) else if zk ci k = 1 then .long (zj (σ a k) (σ a (k + 200)))
  else if zk ci k = 2 then va_rf ((G a k).map (fun b => A0 + b)) else if zk ci k = 3 then (if σ a k = 0 then .null else .ref (A0 + ix (σ a k)))
  else va_rf ((G a k).map (fun b => D.1 (60 + b)))
def zent (D : va_G) (A0 : Nat) (σ : Mm) (G : Gm) (a : Nat) : va_E :=
  if (zs a).1 < 50 then .inr ((zs a).1, (List.range (zs a).2).map (zfv D A0 σ G (zs a).1 a))
  else if (zs a).1 < 53 then .inl (D.1 (zs a).1, (zs a).2, .inl (σ a))
  else if (zs a).1 = 53 then .inl (D.1 53, (zs a).2, .inr (.inl (fun j => zj (σ a j) (σ a (j + 200)))))
  else .inl (D.1 (zs a).1, (zs a).2, .inr (.inr (.inr (.inr (fun j => (G a j).map (fun b => A0 + b))))))
theorem zent_o {D : va_G} {A0 : Nat} {σ : Mm} {G : Gm} {a ci N : Nat} (h : zs a = (ci, N)) (hc : ci < 50) : zent D A0 σ G a = .inr (ci, (List.range N).map (zfv D A0 σ G ci a)) := by
  unfold zent; rw [h]; exact if_pos hc
theorem zent_i {D : va_G} {A0 : Nat} {σ : Mm} {G : Gm} {a ci N : Nat} (h : zs a = (ci, N)) (hc : 50 ≤ ci) (hc2 : ci < 53) : zent D A0 σ G a = .inl (D.1 ci, N, .inl (σ a)) := by
  unfold zent; rw [h]; dsimp only; rw [if_neg (by omega), if_pos hc2]
theorem zent_l {D : va_G} {A0 : Nat} {σ : Mm} {G : Gm} {a N : Nat} (h : zs a = (53, N)) : zent D A0 σ G a = .inl (D.1 53, N, .inr (.inl (fun j => zj (σ a j) (σ a (j + 200))))) := by
  unfold zent; rw [h]; rfl
theorem zent_q {D : va_G} {A0 : Nat} {σ : Mm} {G : Gm} {a ci N : Nat} (h : zs a = (ci, N)) (hc : 54 ≤ ci) : zent D A0 σ G a = .inl (D.1 ci, N, .inr (.inr (.inr (.inr (fun j => (G a j).map (fun b => A0 + b)))))) := by
  unfold zent; rw [h]; dsimp only; rw [if_neg (by omega), if_neg (by omega), if_neg (by omega)]
theorem zent_eq {D : va_G} {A0 : Nat} {σ σ1 : Mm} {G G1 : Gm} {a : Nat} (h : σ1 a = σ a) (h2 : G1 a = G a) : zent D A0 σ1 G1 a = zent D A0 σ G a := by
  unfold zent
  have e : ∀ ci, zfv D A0 σ1 G1 ci a = zfv D A0 σ G ci a := fun ci => funext fun k => by unfold zfv; rw [h, h2]
  simp only [h, h2, e]
def zwl (D : va_G) (A0 : Nat) (σ : Mm) (G : Gm) (n : Nat) : va_W := (List.range n).map (fun a => (A0 + a, zent D A0 σ G a))
theorem zwl_get {D : va_G} {A0 : Nat} {σ : Mm} {G : Gm} {n a : Nat} (h : a < n) : (zwl D A0 σ G n)[a]? = some (A0 + a, zent D A0 σ G a) := by
  unfold zwl
  rw [List.getElem?_map, List.getElem?_range h]
  rfl
theorem zwl_at {D : va_G} {A0 : Nat} {σ : Mm} {G : Gm} {n k : Nat} {q : Nat × va_E} (h : (zwl D A0 σ G n)[k]? = some q) : k < n ∧ q = (A0 + k, zent D A0 σ G k) := by
  have hk : k < n := by
    have := (List.getElem?_eq_some_iff.mp h).1
    simpa [zwl] using this
  rw [zwl_get hk] at h
  exact ⟨hk, (Option.some.inj h).symm⟩
theorem zwl_D {D : va_G} {A0 : Nat} {σ : Mm} {G : Gm} {n : Nat} : va_D (zA A0) (zwl D A0 σ G n) := by
  refine ⟨fun i j p q hi hj e => ?_, fun k q hk => ?_⟩
  · obtain ⟨-, rfl⟩ := zwl_at hi
    obtain ⟨-, rfl⟩ := zwl_at hj
    have e : A0 + i = A0 + j := e
    omega
  · obtain ⟨-, rfl⟩ := zwl_at hk
    exact Nat.le_add_right _ _
theorem zwl_set {D : va_G} {A0 : Nat} {σ σ1 : Mm} {G G1 : Gm} {n a : Nat} {e : va_E} (h : a < n) (ho : ∀ b, b ≠ a → σ1 b = σ b ∧ G1 b = G b) (he : e = zent D A0 σ1 G1 a) : (zwl D A0 σ G n).set a (A0 + a, e) = zwl D A0 σ1 G1 n := by
  apply List.ext_getElem?
  intro k
  by_cases hk : k < n
  · rw [zwl_get hk]
    by_cases hka : k = a
    · subst hka
      rw [List.getElem?_set_self (by simpa [zwl] using h), he]
    · rw [List.getElem?_set_ne (Ne.symm hka), zwl_get hk, zent_eq (ho k hka).1 (ho k hka).2]
  · rw [List.getElem?_eq_none (by simp [zwl]; omega), List.getElem?_eq_none (by simp [zwl]; omega)]
theorem zfs_get {n k : Nat} {f : Nat → Value} (h : k < n) : ((List.range n).map f)[k]? = some (f k) := by
  rw [List.getElem?_map, List.getElem?_range h]; rfl
theorem zfs_set {n k : Nat} {f g : Nat → Value} {v : Value} (h : k < n) (hv : v = g k) (ho : ∀ j, j ≠ k → g j = f j) : ((List.range n).map f).set k v = (List.range n).map g := by
  apply List.ext_getElem?
  intro j
  by_cases hj : j < n
  · rw [zfs_get hj]
    by_cases hjk : j = k
    · subst hjk
      rw [List.getElem?_set_self (by simpa using h), hv]
    · rw [List.getElem?_set_ne (Ne.symm hjk), zfs_get hj, ho j hjk]
  · rw [List.getElem?_eq_none (by simp; omega), List.getElem?_eq_none (by simp; omega)]
abbrev zTY (D : va_G) : List (ClassId × FieldType) := [(D.1 50, .int), (D.1 51, .boolean), (D.1 52, .byte), (D.1 53, .long), (D.1 54, .object "UnsoldPrice$State"), (D.1 55, .object "UnsoldPrice$Rule"), (D.1 56, .array .int)]
/-- what stands throughout a method's walk -/
def zx (p : Program) (s : State) (m : MethodId) (c : Code) (cc : ByteArray) (nL : Nat) (args : Array Value) (own : String) (D : va_G) (A0 : Nat) : Prop :=
  CallFix p m c cc nL s args zTB own ∧ va_K D vwCl (zTY D) s ∧ zRO D A0 s ∧ A0 ≤ s.heap.size
/-- the heap, as it stands now -/
def zh (D : va_G) (A0 : Nat) (σ : Mm) (G : Gm) (n : Nat) (H0 H : Heap) (locs : List Loc) : Prop := va_P D vwCl (zwl D A0 σ G n) H ∧ va_S (zA A0) H0 H locs
/-- a method's start -/
def zWd (D : va_G) (A0 : Nat) (σ : Mm) (G : Gm) (n : Nat) (U : State) : Prop := va_P D vwCl (zwl D A0 σ G n) U.heap ∧ va_K D vwCl (zTY D) U ∧ zRO D A0 U ∧ A0 ≤ U.heap.size
def zPc (D : va_G) (A0 : Nat) (σ : Mm) (G : Gm) (n : Nat) (av : List Value) : Array Value → State → Prop := va_Pc av (zWd D A0 σ G n)
def zQi (D : va_G) (A0 : Nat) (r : Int32) (σ : Mm) (G : Gm) (n : Nat) : Array Value → State → Outcome → State → Prop := va_Qi (S := Unit) (fun x _ => x = r) (fun _ => zWd D A0 σ G n) (zA A0)
def zQv (D : va_G) (A0 : Nat) (σ : Mm) (G : Gm) (n : Nat) : Array Value → State → Outcome → State → Prop := va_Qv (S := Unit) (fun _ => True) (fun _ => zWd D A0 σ G n) (zA A0)
def zQr (D : va_G) (A0 : Nat) (r : Nat) (σ : Mm) (G : Gm) (n : Nat) : Array Value → State → Outcome → State → Prop := va_Qr (S := Unit) (fun _ => True) (fun _ a t => a = A0 + r ∧ zWd D A0 σ G n t) (zA A0)
abbrev zws (y : MethodName) (b : ByteArray) (n : Nat) (ret : Option FieldType) : List Cond := Cond.code y b n ret :: zTB
theorem zmem {w : Cond} (i : Nat) (h : lw_tbl[i]? = some w) (hg : goodWord w = true) : w ∈ zTB := List.mem_filter.mpr ⟨List.mem_of_getElem? h, hg⟩
theorem zG {y : MethodName} {b : ByteArray} {n : Nat} {ret : Option FieldType} (h : Cond.code y b n ret ∈ zTB) : GoodIn zTB (zws y b n ret) := by
  intro w hw
  rcases List.mem_cons.mp hw with rfl | hw
  · exact ⟨h, good_of_word (List.mem_filter.mp h).2⟩
  · exact ⟨hw, good_of_word (List.mem_filter.mp hw).2⟩
