/-! ===== the row of rows: one multianewarray of three rows ===== -/
section ZM
variable {p : Program} {l : Launch} {e : Env} {R : Room} {s : State} {m : MethodId} {args : Array Value} {below : List Frame} {meth : Method} {c : Code} {T : State} {locs : List Loc} {cells slots : Nat}
/-- the class of rows of rows, as the word says it -/
theorem zAOA.spec {U : State} (h : zAOA U) : ∃ (comp cA : ClassId) (kA : Class), U.vm.findClass "[I" = some comp ∧ U.vm.classes[cA]? = some kA ∧ kA.kind = .array comp (.array .int) ∧ U.vm.findClass "[[I" = some cA := by
  have h : (Cond.arrayOver (.array .int)).holds #[] U none U [] = true := h
  simp only [Cond.holds, Cond.value, beq_iff_eq] at h
  cases hc : U.vm.findClass (FieldType.array FieldType.int).toString with
  | none => rw [hc] at h; simp at h
  | some comp =>
    rw [hc] at h
    simp only [Option.bind_some, Option.bind_eq_some_iff, Option.map_eq_some_iff] at h
    obtain ⟨cA, hi, kA, hk, hb⟩ := h
    obtain ⟨hlt, hp, -⟩ := Array.findIdx?_eq_some_iff_getElem.mp hi
    have e0 : U.vm.classes[cA] = kA := (Array.getElem?_eq_some_iff.mp hk).2
    rw [e0] at hp
    cases hkind : kA.kind with
    | array c0 t0 =>
      rw [hkind] at hb hp
      simp only [beq_iff_eq] at hp
      simp at hb
      exact ⟨comp, cA, kA, hc, hk, by rw [hkind, hp, hb.1], hb.2⟩
    | _ => rw [hkind] at hb; simp at hb
def zmI (cI : ClassId) (M : Nat) : Cell := { cls := cI, slots := Array.replicate M (.int 0), vm := .none }
def zmO (cA : ClassId) : Cell := { cls := cA, slots := Array.replicate 3 .null, vm := .none }
/-- one turn: a row is made and laid into the row of rows -/
def zmT (h : Nat) (cI : ClassId) (M i : Nat) (x : State × Cell) : State × Cell := ((x.1.pushCell (zmI cI M)).setCell h (x.2.setSlot i (.ref (h + 1 + i))), x.2.setSlot i (.ref (h + 1 + i)))
def zmF (T : State) (cA cI : ClassId) (M : Nat) : State × Cell := zmT T.heap.size cI M 2 (zmT T.heap.size cI M 1 (zmT T.heap.size cI M 0 (T.pushCell (zmO cA), zmO cA)))
/-- what stands after i turns -/
def zmK (T : State) (cA : ClassId) (M i : Nat) (x : State × Cell) : Prop := x.1.heap[T.heap.size]? = some x.2 ∧ x.2.cls = cA ∧ x.2.vm = .none ∧ x.2.slots.size = 3 ∧ x.1.vm = T.vm ∧ x.1.heap.size = T.heap.size + 1 + i ∧ x.1.slotsUsed = T.slotsUsed + 3 + i * M
theorem zmK_0 {cA : ClassId} {M : Nat} : zmK T cA M 0 (T.pushCell (zmO cA), zmO cA) :=
  ⟨State.heap_pushCell_size _ _, rfl, rfl, by simp [zmO], rfl, by simp, by simp [zmO]⟩
theorem zmK_p {cA cI : ClassId} {M i : Nat} {x : State × Cell} (h : zmK T cA M i x) : (x.1.pushCell (zmI cI M)).heap[T.heap.size]? = some x.2 := by
  have hlt : T.heap.size < x.1.heap.size := by rw [h.2.2.2.2.2.1]; omega
  rw [State.heap_pushCell_of_lt (h := hlt)]
  exact h.1
theorem zmK_s {cA cI : ClassId} {M i : Nat} {x : State × Cell} (h : zmK T cA M i x) : zmK T cA M (i + 1) (zmT T.heap.size cI M i x) := by
  have hp := zmK_p (cI := cI) h
  obtain ⟨h1, h2, h3, h4, h5, h6, h7⟩ := h
  refine ⟨State.heap_setCell_self hp, by simp [zmT, Cell.setSlot, h2], by simp [zmT, Cell.setSlot, h3], by simp [zmT, Cell.setSlot, h4], by simp [zmT, h5], ?_, ?_⟩
  · simp [zmT, State.setCell, h6]; omega
  · simp [zmT, h7, zmI, Nat.succ_mul]; omega
theorem zm_old {cA cI : ClassId} {M i a : Nat} {x : State × Cell} (h : zmK T cA M i x) (ha : a < T.heap.size + 1 + i) (hn : a ≠ T.heap.size) : (zmT T.heap.size cI M i x).1.heap[a]? = x.1.heap[a]? := by
  show ((x.1.pushCell (zmI cI M)).setCell T.heap.size _).heap[a]? = _
  have hlt : a < x.1.heap.size := by rw [h.2.2.2.2.2.1]; exact ha
  rw [State.heap_setCell_other (Ne.symm hn), State.heap_pushCell_of_lt (h := hlt)]
theorem zm_row {cA cI : ClassId} {M i : Nat} {x : State × Cell} (h : zmK T cA M i x) : (zmT T.heap.size cI M i x).1.heap[T.heap.size + 1 + i]? = some (zmI cI M) := by
  show ((x.1.pushCell (zmI cI M)).setCell T.heap.size _).heap[T.heap.size + 1 + i]? = _
  rw [State.heap_setCell_other (show T.heap.size ≠ T.heap.size + 1 + i by omega), ← h.2.2.2.2.2.1]
  exact State.heap_pushCell_size _ _
/-- all of it, made -/
theorem zmF_at {cA cI : ClassId} {M : Nat} : (zmF T cA cI M).1.heap.size = T.heap.size + 4 ∧ (zmF T cA cI M).1.heap[T.heap.size]? = some (((zmO cA).setSlot 0 (.ref (T.heap.size + 1))).setSlot 1 (.ref (T.heap.size + 2)) |>.setSlot 2 (.ref (T.heap.size + 3))) ∧
    (∀ i, i < 3 → (zmF T cA cI M).1.heap[T.heap.size + 1 + i]? = some (zmI cI M)) ∧ ∀ a, a < T.heap.size → (zmF T cA cI M).1.heap[a]? = T.heap[a]? := by
  have k0 : zmK T cA M 0 (T.pushCell (zmO cA), zmO cA) := zmK_0
  have k1 := zmK_s (cI := cI) k0
  have k2 := zmK_s (cI := cI) k1
  have k3 := zmK_s (cI := cI) k2
  refine ⟨k3.2.2.2.2.2.1, k3.1, fun i hi => ?_, fun a ha => ?_⟩
  · rcases (show i = 0 ∨ i = 1 ∨ i = 2 by omega) with rfl | rfl | rfl
    · exact (zm_old k2 (by omega) (by omega)).trans ((zm_old k1 (by omega) (by omega)).trans (zm_row k0))
    · exact (zm_old k2 (by omega) (by omega)).trans (zm_row k1)
    · exact zm_row k2
  · exact (zm_old k2 (by omega) (by omega)).trans ((zm_old k1 (by omega) (by omega)).trans ((zm_old k0 (by omega) (by omega)).trans (State.heap_pushCell_of_lt _ _ ha)))
theorem zmF_top {cA cI : ClassId} {M : Nat} {f : JFrame} : (zmF (T.setTop f) cA cI M).1 = (zmF T cA cI M).1.setTop f := by
  simp only [zmF, zmT, State.heap_setTop, State.pushCell_setTop, State.setCell_setTop]
theorem zm_stand {cA cI : ClassId} {M i : Nat} {x : State × Cell} (X : Stand p l e R s m args below meth c x.1 locs cells slots) (hT : s.heap.size ≤ T.heap.size) (h : zmK T cA M i x) : Stand p l e R s m args below meth c (zmT T.heap.size cI M i x).1 locs (cells + 1) (slots + M) := by
  have Y := (X.pushed (zmI cI M)).stored (zmK_p (cI := cI) h) i (.ref (T.heap.size + 1 + i))
  rw [show (zmI cI M).slots.size = M by simp [zmI]] at Y
  exact Y.dropFresh (fun y hy => by rw [List.mem_singleton.mp hy]; exact hT)
theorem zmF_stand {cA cI : ClassId} {M : Nat} (X : Stand p l e R s m args below meth c T locs cells slots) : Stand p l e R s m args below meth c (zmF T cA cI M).1 locs (cells + 4) (slots + (3 + 3 * M)) := by
  have hT : s.heap.size ≤ T.heap.size := X.heapGrown
  have k0 : zmK T cA M 0 (T.pushCell (zmO cA), zmO cA) := zmK_0
  have k1 := zmK_s (cI := cI) k0
  have k2 := zmK_s (cI := cI) k1
  have X0 := X.pushed (zmO cA)
  rw [show (zmO cA).slots.size = 3 by simp [zmO]] at X0
  have X3 := zm_stand (cI := cI) (zm_stand (cI := cI) (zm_stand (cI := cI) X0 hT k0) hT k1) hT k2
  rw [show cells + 1 + 1 + 1 + 1 = cells + 4 by omega, show slots + 3 + M + M + M = slots + (3 + 3 * M) by omega] at X3
  exact X3
variable {E : CtlPost} {d : Bool} {acts : List Action}
theorem zm_make1 {cI cc : ClassId} {kI : Class} {k : Int32} (hkI : T.vm.classes[cI]? = some kI) (hI : kI.kind = .array cc .int) (hk : ¬ k < 0) (hl : ¬ k.toNatClampNeg > e.platform.arrayLengthLimit) (hh : ¬ k.toNatClampNeg * componentBytes .int > e.platform.maxHeapBytes)
    (h1 : T.heap.size < e.platform.maxCells) (h2 : T.slotsUsed + k.toNatClampNeg ≤ e.platform.maxSlots) {Q : Addr → Pre} (hq : ∀ acts', Q T.heap.size d acts' (T.pushCell (zmI cI k.toNatClampNeg))) : wp (multianewarray.make cI [k]) Q E e d acts T := by
  rw [multianewarray.make]
  simp only [wp_bind', W.ite, hk, if_false, wp_pure', W.theClass, hkI, hI, Option.some.injEq, exists_eq_left']
  exact W.newArray_of hkI hI hl hh h1 h2 rfl hq
theorem zm_make {cA cI cc : ClassId} {kA kI : Class} {k : Int32} (hkA : T.vm.classes[cA]? = some kA) (hA : kA.kind = .array cI (.array .int)) (hkI : T.vm.classes[cI]? = some kI) (hI : kI.kind = .array cc .int) (hk : ¬ k < 0)
    (hl1 : ¬ 3 > e.platform.arrayLengthLimit) (hh1 : ¬ 3 * componentBytes (.array .int) > e.platform.maxHeapBytes) (hl : ¬ k.toNatClampNeg > e.platform.arrayLengthLimit) (hh : ¬ k.toNatClampNeg * componentBytes .int > e.platform.maxHeapBytes)
    (h1 : T.heap.size + 4 ≤ e.platform.maxCells) (h2 : T.slotsUsed + (3 + 3 * k.toNatClampNeg) ≤ e.platform.maxSlots) {Q : Addr → Pre} (hq : ∀ d' acts', Q T.heap.size d' acts' (zmF T cA cI k.toNatClampNeg).1) : wp (multianewarray.make cA [3, k]) Q E e d acts T := by
  have n3 : ((3 : Int32) < 0) = False := by decide
  have t3 : (3 : Int32).toNatClampNeg = 3 := rfl
  have hfind : ([k].find? (· < 0)) = none := by simp [hk]
  have k0 : zmK T cA k.toNatClampNeg 0 (T.pushCell (zmO cA), zmO cA) := zmK_0
  have k1 := zmK_s (cI := cI) k0
  have k2 := zmK_s (cI := cI) k1
  have fit : ∀ {i : Nat} {x : State × Cell}, zmK T cA k.toNatClampNeg i x → ∀ a : Nat, (x.1.pushCell (zmI cI k.toNatClampNeg)).fitsSlot x.2.cls x.2.vm i (.ref a) = true := fun {i x} h a => by
    rw [h.2.1, h.2.2.1]
    simp [State.fitsSlot, State.slotType?, h.2.2.2.2.1, hkA, hA, fits]
  rw [multianewarray.make]
  simp only [wp_bind', W.ite, n3, if_false, wp_pure', W.theClass, hkA, hA, Option.some.injEq, exists_eq_left', t3]
  refine W.newArray_of hkA hA hl1 hh1 (by omega) (by omega) rfl (fun acts1 => ?_)
  simp only [hfind]
  rw [ite_self, wp_bind', Std.Legacy.Range.forIn_eq_forIn_range']
  rw [show ([:3] : Std.Legacy.Range).size = 3 by simp [Std.Legacy.Range.size]]
  show wp (forIn [0, 1, 2] PUnit.unit _) _ E e d _ _
  simp only [List.forIn_cons, List.forIn_nil, wp_bind']
  refine zm_make1 (T := T.pushCell (zmO cA)) (by rw [k0.2.2.2.2.1]; exact hkI) hI hk hl hh (by rw [k0.2.2.2.2.2.1]; omega) (by rw [k0.2.2.2.2.2.2]; omega) (fun acts2 => ?_)
  simp only [wp_bind', W.writeLoc, wp_pure']
  refine ⟨zmO cA, zmK_p k0, by rw [k0.2.2.1]; simp, by rw [k0.2.2.2.1]; decide, fit k0 _, ?_⟩
  rw [show (T.pushCell (zmO cA)).heap.size = T.heap.size + 1 + 0 from k0.2.2.2.2.2.1]
  refine zm_make1 (T := (zmT T.heap.size cI k.toNatClampNeg 0 (T.pushCell (zmO cA), zmO cA)).1) (by rw [k1.2.2.2.2.1]; exact hkI) hI hk hl hh (by rw [k1.2.2.2.2.2.1]; omega) (by rw [k1.2.2.2.2.2.2]; omega) (fun acts3 => ?_)
  simp only [wp_bind', W.writeLoc, wp_pure']
  refine ⟨_, zmK_p k1, by rw [k1.2.2.1]; simp, by rw [k1.2.2.2.1]; decide, fit k1 _, ?_⟩
  rw [k1.2.2.2.2.2.1]
  refine zm_make1 (T := (zmT T.heap.size cI k.toNatClampNeg 1 (zmT T.heap.size cI k.toNatClampNeg 0 (T.pushCell (zmO cA), zmO cA))).1) (by rw [k2.2.2.2.2.1]; exact hkI) hI hk hl hh (by rw [k2.2.2.2.2.2.1]; omega) (by rw [k2.2.2.2.2.2.2]; omega) (fun acts4 => ?_)
  simp only [wp_bind', W.writeLoc, wp_pure']
  refine ⟨_, zmK_p k2, by rw [k2.2.2.1]; simp, by rw [k2.2.2.2.1]; decide, fit k2 _, ?_⟩
  rw [k2.2.2.2.2.2.1]
  exact hq _ _
theorem zm_step (X : Stand p l e R s m args below meth c T locs cells slots) (hexec : p.tables.exec = Jvm.exec) {own : String} {index : Nat} (hown : s.vm.findClass own = some m.cls) (hclink : (Cond.classLink own index "[[I").before args s = true) (hover : zAOA s) (harr : (Cond.arrayClass .int).before args s = true)
    {g : JFrame} (hg : g.method = m) (hdg : decode c.code g.pc = .ok (.multianewarray index 2, 4)) {k : Int32} {rest : List Value} (hstack : g.stack = .int k :: .int 3 :: rest) (hk : ¬ k < 0) (hb : k.toNatClampNeg * 4 ≤ 536870912) (hcells : cells + 4 ≤ R.cells) (hslots : slots + (3 + 3 * k.toNatClampNeg) ≤ R.slots) :
    ∃ (vm₁ : Vm) (cA cI : ClassId), s.vm.findClass "[[I" = some cA ∧ s.vm.findClass "[I" = some cI ∧ Stand p l e R s m args below meth c (zmF (T.setVm vm₁) cA cI k.toNatClampNeg).1 locs (cells + 4) (slots + (3 + 3 * k.toNatClampNeg)) ∧
      ∀ target, Steps p.tables e below ((zmF (T.setVm vm₁) cA cI k.toNatClampNeg).1.setTop { g with pc := g.pc + 4, stack := .ref T.heap.size :: rest }) target → Steps p.tables e below (T.setTop g) target := by
  subst hg
  have hpl : e.platform.magicAccessors = ({} : Platform).magicAccessors := by rw [X.admits.platform]
  obtain ⟨cI, cA, kA, hcI, hkA, hA, hcA⟩ := hover.spec
  obtain ⟨cI', kI, cc, hcI', hkI, hI⟩ := Cond.arrayClass_spec harr
  cases Option.some.inj (hcI'.symm.trans hcI)
  obtain ⟨c0, hc0, hcl⟩ := Cond.classLink_spec hown hclink e.platform hpl
  cases Option.some.inj (hc0.symm.trans hcA)
  obtain ⟨hg₁, hwarm₁, hready₁⟩ := State.classEntry (e := e) X.warmed hcl
  generalize T.vm.noted g.method.cls index (.cls cA) = vm₁ at hg₁ hwarm₁ hready₁
  obtain ⟨kA₁, hkA₁, eA⟩ := hwarm₁.alike.2.2 _ _ hkA
  obtain ⟨kI₁, hkI₁, eI⟩ := hwarm₁.alike.2.2 _ _ hkI
  have X₁ := X.noted hwarm₁
  have XF := zmF_stand (cA := cA) (cI := cI) (M := k.toNatClampNeg) X₁
  obtain ⟨r1, r2⟩ := X.roomAbove hcells hslots
  refine ⟨vm₁, cA, cI, hcA, hcI, XF, fun target hrest => ?_⟩
  have al := Launch.admits_arrayLengthLimit X.admits
  have ah := Launch.admits_maxHeapBytes X.admits
  have c4 : componentBytes (.array .int) = 4 := rfl
  have c4' : componentBytes .int = 4 := rfl
  jvm_step X.here [hexec, hdg]
  simp only [multianewarray.sem, wp_bind', W.resolveClassAt_links (State.method?_setTop g X.here.top) hg₁]
  rw [W.popN, if_neg (by decide)]
  refine ⟨g, State.topJava?_setTop' (s := T.setVm vm₁) g X.here.top, [.int 3, .int k], rest, rfl, hstack, ?_⟩
  simp only [List.mapM_cons, List.mapM_nil, wp_bind', wp_pure']
  refine zm_make (kA := kA₁) (kI := kI₁) (cI := cI) (cc := cc) hkA₁ (by rw [eA]; exact hA) hkI₁ (by rw [eI]; exact hI) hk (by rw [al]; omega) (by rw [ah, c4]; omega) (by rw [al]; omega) (by rw [ah, c4']; omega) (by show T.heap.size + 4 ≤ _; omega) (by show T.slotsUsed + _ ≤ _; omega) (fun d' acts' => ?_)
  have eS : ((T.setTop g).setVm vm₁).setTop { g with stack := rest } = (T.setVm vm₁).setTop { g with stack := rest } := by
    show ((T.setVm vm₁).setTop g).setTop _ = _
    rw [State.setTop_setTop]
  rw [eS, zmF_top]
  simp only [wp_bind', W.mark, W.pushRef, State.topJava?_setTop' _ XF.here.top, Option.some.injEq, exists_eq_left', State.setTop_setTop, State.heap_setTop]
  intro acts
  simp [jvm, XF.here.top]
  exact hrest
end ZM
