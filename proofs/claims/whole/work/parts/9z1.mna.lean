/-! a row of rows made at once: the step, by what holds of the heap after each row -/
section zMn
variable {E : CtlPost} {e : Env} {d : Bool} {acts : List Action} {s : State}
/-- the heap and the room when i rows of n stand: T before, the outer row's place T.heap.size -/
def mnI (T : State) (cA cB : ClassId) (n m : Nat) (v : Value) (i : Nat) (U : State) : Prop :=
  U.vm = T.vm ∧ U.heap.size = T.heap.size + 1 + i ∧ U.slotsUsed = T.slotsUsed + n + i * m ∧ (∀ q : Nat, q < T.heap.size → U.heap[q]? = T.heap[q]?) ∧
  U.heap[T.heap.size]? = some (arrV cA n (fun j => if j < i then .ref (T.heap.size + 1 + j) else .null)) ∧ ∀ j : Nat, j < i → U.heap[T.heap.size + 1 + j]? = some (arrV cB m (fun _ => v))
theorem mnI.zero {T : State} {cA cB : ClassId} {n m : Nat} {v : Value} : mnI T cA cB n m v 0 (T.pushCell { cls := cA, slots := Array.replicate n .null, vm := .none }) := by
  refine ⟨rfl, by simp, by simp, fun q hq => State.heap_pushCell_of_lt _ _ hq, ?_, fun j hj => absurd hj (Nat.not_lt_zero _)⟩
  rw [State.heap_pushCell_size, arrV_new]
  simp
theorem mnI.next {T U : State} {cA cB : ClassId} {n m i : Nat} {v : Value} (h : mnI T cA cB n m v i U) (hi : i < n) :
    (U.pushCell { cls := cB, slots := Array.replicate m v, vm := .none }).heap[T.heap.size]? = some (arrV cA n (fun j => if j < i then .ref (T.heap.size + 1 + j) else .null)) ∧
    mnI T cA cB n m v (i + 1) ((U.pushCell { cls := cB, slots := Array.replicate m v, vm := .none }).setCell T.heap.size ((arrV cA n (fun j => if j < i then .ref (T.heap.size + 1 + j) else .null)).setSlot i (.ref U.heap.size))) := by
  obtain ⟨h1, h2, h3, h4, h5, h6⟩ := h
  have hlt : T.heap.size < U.heap.size := by omega
  have hp : (U.pushCell { cls := cB, slots := Array.replicate m v, vm := .none }).heap[T.heap.size]? = some (arrV cA n (fun j => if j < i then .ref (T.heap.size + 1 + j) else .null)) := by
    rw [State.heap_pushCell_of_lt _ _ hlt]; exact h5
  refine ⟨hp, h1, ?_, ?_, fun q hq => ?_, ?_, fun j hj => ?_⟩
  · simp [State.setCell, h2]; omega
  · simp [h3, Nat.succ_mul]; omega
  · have hq2 : q < U.heap.size := by omega
    have hq3 : T.heap.size ≠ q := by omega
    rw [State.heap_setCell_other hq3, State.heap_pushCell_of_lt _ _ hq2]
    exact h4 q hq
  · rw [State.heap_setCell_self hp, arrV_store]
    congr 2
    funext j
    unfold updV
    by_cases e1 : j = i
    · subst e1
      rw [if_pos rfl, if_pos (by omega), h2]
    · rw [if_neg e1]
      show (if j < i then Value.ref (T.heap.size + 1 + j) else .null) = _
      by_cases e2 : j < i
      · rw [if_pos e2, if_pos (by omega)]
      · rw [if_neg e2, if_neg (by omega)]
  · have hq3 : T.heap.size ≠ T.heap.size + 1 + j := by omega
    rw [State.heap_setCell_other hq3]
    by_cases e1 : j < i
    · have hq2 : T.heap.size + 1 + j < U.heap.size := by omega
      rw [State.heap_pushCell_of_lt _ _ hq2]
      exact h6 j e1
    · have e2 : T.heap.size + 1 + j = U.heap.size := by omega
      rw [e2, State.heap_pushCell_size, arrV_new]
/-- the states one behind another -/
def mnS (T : State) (cA cB : ClassId) (n m : Nat) (v : Value) : Nat → State
  | 0 => T.pushCell { cls := cA, slots := Array.replicate n .null, vm := .none }
  | i + 1 => ((mnS T cA cB n m v i).pushCell { cls := cB, slots := Array.replicate m v, vm := .none }).setCell T.heap.size ((arrV cA n (fun j => if j < i then .ref (T.heap.size + 1 + j) else .null)).setSlot i (.ref (mnS T cA cB n m v i).heap.size))
theorem mnS_I {T : State} {cA cB : ClassId} {n m : Nat} {v : Value} : ∀ i, i ≤ n → mnI T cA cB n m v i (mnS T cA cB n m v i)
  | 0, _ => mnI.zero
  | i + 1, h => ((mnS_I i (by omega)).next (by omega)).2
end zMn

section zMn1
variable {E : CtlPost} {e : Env} {d : Bool} {acts : List Action} {s : State}
theorem mn_inner {cB cc : ClassId} {kB : Class} {ty : FieldType} {y : Int32} {Q : Addr → Pre} (hk : s.vm.classes[cB]? = some kB) (hkind : kB.kind = .array cc ty) (hy : ¬ y < 0) (hl : ¬ y.toNatClampNeg > e.platform.arrayLengthLimit) (hh : ¬ y.toNatClampNeg * componentBytes ty > e.platform.maxHeapBytes) (hf : fits ty (defaultValue ty) = true) (h1 : s.heap.size < e.platform.maxCells) (h2 : s.slotsUsed + y.toNatClampNeg ≤ e.platform.maxSlots)
    (hq : ∀ acts', Q s.heap.size d acts' (s.pushCell { cls := cB, slots := Array.replicate y.toNatClampNeg (defaultValue ty), vm := .none })) : wp (multianewarray.make cB [y]) Q E e d acts s := by
  rw [multianewarray.make]
  simp only [wp_bind', W.ite, hy, if_false, wp_pure', W.theClass, hk, hkind, Option.some.injEq, exists_eq_left']
  exact W.newArray_of hk hkind hl hh h1 h2 hf hq
theorem mn_ref {t : FieldType} (h : t.isReference = true) {v : Value} (hv : v = .null ∨ ∃ a, v = .ref a) : fits t v = true := by
  cases t <;> first | exact absurd h (by decide) | (rcases hv with rfl | ⟨a, rfl⟩ <;> rfl)
theorem mn_make {cA cB cc : ClassId} {kA kB : Class} {t0 ty : FieldType} {x y : Int32} {Q : Addr → Pre} (hkA : s.vm.classes[cA]? = some kA) (hkindA : kA.kind = .array cB t0) (hr : t0.isReference = true) (hk : s.vm.classes[cB]? = some kB) (hkind : kB.kind = .array cc ty) (hx : ¬ x < 0) (hy : ¬ y < 0)
    (hl0 : ¬ x.toNatClampNeg > e.platform.arrayLengthLimit) (hh0 : ¬ x.toNatClampNeg * componentBytes t0 > e.platform.maxHeapBytes) (hl : ¬ y.toNatClampNeg > e.platform.arrayLengthLimit) (hh : ¬ y.toNatClampNeg * componentBytes ty > e.platform.maxHeapBytes) (hf : fits ty (defaultValue ty) = true)
    (h1 : s.heap.size + 1 + x.toNatClampNeg ≤ e.platform.maxCells) (h2 : s.slotsUsed + x.toNatClampNeg + x.toNatClampNeg * y.toNatClampNeg ≤ e.platform.maxSlots) (P : Nat → State → Prop)
    (hP0 : P 0 (s.pushCell { cls := cA, slots := Array.replicate x.toNatClampNeg .null, vm := .none }))
    (hPs : ∀ U cell i a, i < x.toNatClampNeg → P i U → (U.pushCell { cls := cB, slots := Array.replicate y.toNatClampNeg (defaultValue ty), vm := .none }).heap[s.heap.size]? = some cell → a = U.heap.size → P (i + 1) ((U.pushCell { cls := cB, slots := Array.replicate y.toNatClampNeg (defaultValue ty), vm := .none }).setCell s.heap.size (cell.setSlot i (.ref a))))
    (hq : ∀ U d' acts', P x.toNatClampNeg U → mnI s cA cB x.toNatClampNeg y.toNatClampNeg (defaultValue ty) x.toNatClampNeg U → Q s.heap.size d' acts' U) : wp (multianewarray.make cA [x, y]) Q E e d acts s := by
  have hno : List.find? (fun z : Int32 => decide (z < 0)) [y] = none := by simp [hy]
  rw [multianewarray.make]
  simp only [wp_bind', W.ite, hx, if_false, wp_pure', W.theClass, hkA, hkindA, Option.some.injEq, exists_eq_left']
  refine W.newArray_of hkA hkindA hl0 hh0 (by omega) (by have := Nat.zero_le (x.toNatClampNeg * y.toNatClampNeg); omega) (mn_ref hr (Or.inl rfl)) (fun acts1 => ?_)
  simp only [hno]
  rw [ite_self, wp_bind', Std.Legacy.Range.forIn_eq_forIn_range']
  rw [show ([:x.toNatClampNeg] : Std.Legacy.Range).size = x.toNatClampNeg by simp [Std.Legacy.Range.size]]
  show wp (forIn (List.range' 0 x.toNatClampNeg 1) PUnit.unit _) _ E e d _ _
  refine wp_forIn_inv (fun rest U => ∃ i, i + rest.length = x.toNatClampNeg ∧ rest = List.range' i rest.length ∧ P i U ∧ mnI s cA cB x.toNatClampNeg y.toNatClampNeg (defaultValue ty) i U) _ _ ⟨0, by simp, by simp, hP0, mnI.zero⟩ ?_ ?_
  · rintro w rest U d1 acts2 Q1 ⟨i, hi, hl1, hp, hU⟩ hnext
    rw [List.length_cons, List.range'_succ] at hl1
    obtain ⟨e1, e2⟩ := List.cons.inj hl1
    subst e1
    rw [List.length_cons] at hi
    obtain ⟨n1, n2⟩ := hU.next (show w < x.toNatClampNeg by omega)
    obtain ⟨u1, u2, u3, u4, u5, u6⟩ := hU
    have hmul : w * y.toNatClampNeg + y.toNatClampNeg ≤ x.toNatClampNeg * y.toNatClampNeg := by
      have := Nat.mul_le_mul_right y.toNatClampNeg (show w + 1 ≤ x.toNatClampNeg by omega)
      rw [Nat.succ_mul] at this
      exact this
    simp only [wp_bind']
    refine mn_inner (by rw [u1]; exact hk) hkind hy hl hh hf (by omega) (by omega) (fun acts3 => ?_)
    simp only [wp_bind', W.writeLoc, wp_pure']
    refine ⟨_, n1, by simp [arrV], by rw [arrV_size]; omega, ?_, hnext _ _ _ ⟨w + 1, by omega, e2, hPs _ _ _ _ (by omega) hp n1 rfl, n2⟩⟩
    simp [State.fitsSlot, State.slotType?, u1, hkA, hkindA, mn_ref hr (Or.inr ⟨_, rfl⟩), arrV]
  · rintro U d1 acts2 ⟨i, hi, _, hp, hU⟩
    have e1 : i = x.toNatClampNeg := by simpa using hi
    subst e1
    simp only [wp_pure']
    exact hq _ _ _ hp hU
end zMn1
section zMn2
variable {p : Program} {l : Launch} {e : Env} {R : Room} {s : State} {m : MethodId} {args : Array Value} {below : List Frame} {meth : Method} {c : Code} {H : Heap} {locs : List Loc} {cells slots : Nat} {Q : State → Prop}
theorem W.mna {cc : ByteArray} (hexec : p.tables.exec = Jvm.exec) (hb : c.code = cc) {own : String} {index : Nat} {ty : FieldType} (hown : s.vm.findClass own = some m.cls) (hclink : (Cond.classLink own index ("[" ++ (FieldType.array ty).toString)).before args s = true) (hover : (Cond.arrayOver (.array ty)).before args s = true) (harr : (Cond.arrayClass ty).before args s = true)
    {g : JFrame} (hg : g.method = m) (hdg : decode cc g.pc = .ok (.multianewarray index 2, 4)) {x y : Int32} {rest : List Value} (hstack : g.stack = .int y :: .int x :: rest) (hx : ¬ x < 0) (hy : ¬ y < 0) (b1 : x.toNatClampNeg * 4 ≤ 536870912) (b2 : y.toNatClampNeg * componentBytes ty ≤ 536870912) (b3 : y.toNatClampNeg ≤ 536870912) (hf : fits ty (defaultValue ty) = true)
    (hcells : cells + (1 + x.toNatClampNeg) ≤ R.cells) (hslots : slots + (x.toNatClampNeg + x.toNatClampNeg * y.toNatClampNeg) ≤ R.slots)
    (kk : ∀ (cA cB : ClassId) (H' : Heap), s.vm.findClass ("[" ++ (FieldType.array ty).toString) = some cA → s.vm.findClass (FieldType.array ty).toString = some cB → H'.size = H.size + 1 + x.toNatClampNeg → (∀ q : Nat, q < H.size → H'[q]? = H[q]?) → H'[H.size]? = some (arrV cA x.toNatClampNeg (fun j => if j < x.toNatClampNeg then .ref (H.size + 1 + j) else .null)) → (∀ j : Nat, j < x.toNatClampNeg → H'[H.size + 1 + j]? = some (arrV cB y.toNatClampNeg (fun _ => defaultValue ty))) →
      W p l e R s m args below meth c H' (locs ++ (List.range x.toNatClampNeg).map fun j => ⟨H.size, j⟩) (cells + 1 + x.toNatClampNeg) (slots + x.toNatClampNeg + x.toNatClampNeg * y.toNatClampNeg) Q { g with pc := g.pc + 4, stack := .ref H.size :: rest }) : W p l e R s m args below meth c H locs cells slots Q g := by
  intro T hT X
  subst hT; subst hb; subst hg
  have hpl : e.platform.magicAccessors = ({} : Platform).magicAccessors := by rw [X.admits.platform]
  obtain ⟨cB, cA, kA, hcB, -, hkA, hkindA, hnA⟩ := arrayOverA_spec hover
  obtain ⟨cB2, kB, cc2, hcB2, hkB, hkindB⟩ := Cond.arrayClass_spec harr
  cases hcB.symm.trans hcB2
  obtain ⟨cA2, hcA2, hcl⟩ := Cond.classLink_spec hown hclink e.platform hpl
  cases hnA.symm.trans hcA2
  obtain ⟨hg1, hwarm, hready⟩ := State.classEntry (e := e) X.warmed hcl
  generalize T.vm.noted g.method.cls index (.cls cA) = vm1 at hg1 hwarm hready
  have hal : s.vm.Alike vm1 := hwarm.alike
  obtain ⟨kA1, hkA1, eA⟩ := hal.2.2 _ _ hkA
  obtain ⟨kB1, hkB1, eB⟩ := hal.2.2 _ _ hkB
  have X1 := X.noted hwarm
  obtain ⟨r1, r2⟩ := X.roomAbove hcells hslots
  have hst : ∀ i, i ≤ x.toNatClampNeg → Stand p l e R s g.method args below meth c (mnS (T.setVm vm1) cA cB x.toNatClampNeg y.toNatClampNeg (defaultValue ty) i) (locs ++ (List.range i).map fun j => ⟨T.heap.size, j⟩) (cells + 1 + i) (slots + x.toNatClampNeg + i * y.toNatClampNeg) := by
    intro i
    induction i with
    | zero =>
      intro _
      have h := X1.pushed { cls := cA, slots := Array.replicate x.toNatClampNeg .null, vm := .none }
      rw [Array.size_replicate] at h
      simpa [mnS] using h
    | succ i ih =>
      intro hi
      have h := ((ih (by omega)).pushed { cls := cB, slots := Array.replicate y.toNatClampNeg (defaultValue ty), vm := .none }).stored ((mnS_I i (by omega)).next (by omega)).1 i (.ref (mnS (T.setVm vm1) cA cB x.toNatClampNeg y.toNatClampNeg (defaultValue ty) i).heap.size)
      rw [Array.size_replicate, List.append_assoc] at h
      rw [List.range_succ, List.map_append, Nat.succ_mul, ← Nat.add_assoc, ← Nat.add_assoc]
      exact h
  have hI := mnS_I (T := T.setVm vm1) (cA := cA) (cB := cB) (m := y.toNatClampNeg) (v := defaultValue ty) x.toNatClampNeg (Nat.le_refl _)
  obtain ⟨i1, i2, i3, i4, i5, i6⟩ := hI
  obtain ⟨t', a1, q1⟩ := kk cA cB _ hnA hcB i2 i4 i5 i6 _ rfl (hst _ (Nat.le_refl _))
  refine ⟨t', ?_, q1⟩
  have hl0 : ¬ x.toNatClampNeg > e.platform.arrayLengthLimit := by rw [Launch.admits_arrayLengthLimit X.admits]; omega
  have hh0 : ¬ x.toNatClampNeg * componentBytes (.array ty) > e.platform.maxHeapBytes := by rw [Launch.admits_maxHeapBytes X.admits]; show ¬ x.toNatClampNeg * 4 > 536870912; omega
  have hl : ¬ y.toNatClampNeg > e.platform.arrayLengthLimit := by rw [Launch.admits_arrayLengthLimit X.admits]; omega
  have hh : ¬ y.toNatClampNeg * componentBytes ty > e.platform.maxHeapBytes := by rw [Launch.admits_maxHeapBytes X.admits]; omega
  jvm_step X.here [hexec, hdg]
  simp only [multianewarray.sem, wp_bind', W.resolveClassAt_links (State.method?_setTop g X.here.top) hg1]
  rw [W.popN, if_neg (by decide)]
  refine ⟨g, State.topJava?_setTop' (s := T.setVm vm1) g X.here.top, [.int x, .int y], rest, rfl, hstack, ?_⟩
  simp only [List.mapM_cons, List.mapM_nil, wp_bind', wp_pure']
  have eS : ((T.setTop g).setVm vm1).setTop { g with stack := rest } = (T.setVm vm1).setTop { g with stack := rest } := by
    show ((T.setVm vm1).setTop g).setTop _ = _
    rw [State.setTop_setTop]
  rw [eS]
  refine mn_make (kA := kA1) (kB := kB1) (cA := cA) (cB := cB) (cc := cc2) (t0 := .array ty) (ty := ty) hkA1 (by rw [eA]; exact hkindA) rfl hkB1 (by rw [eB]; exact hkindB) hx hy hl0 hh0 hl hh hf (by show T.heap.size + 1 + _ ≤ _; omega) (by show T.slotsUsed + _ + _ ≤ _; omega) (fun i U => i ≤ x.toNatClampNeg ∧ U = (mnS (T.setVm vm1) cA cB x.toNatClampNeg y.toNatClampNeg (defaultValue ty) i).setTop { g with stack := rest }) ⟨Nat.zero_le _, rfl⟩ (fun U cell i a hi hP hc ha => ?_) (fun U d1 acts1 hP hU => ?_)
  · obtain ⟨hP0, rfl⟩ := hP
    subst ha
    have hn := ((mnS_I (T := T.setVm vm1) (cA := cA) (cB := cB) (n := x.toNatClampNeg) (m := y.toNatClampNeg) (v := defaultValue ty) i hP0).next hi).1
    have hc2 : cell = _ := Option.some.inj (hc.symm.trans hn)
    subst hc2
    exact ⟨hi, rfl⟩
  · obtain ⟨-, rfl⟩ := hP
    simp only [wp_bind', W.mark, W.pushRef, State.topJava?_setTop' _ (hst _ (Nat.le_refl _)).here.top, Option.some.injEq, exists_eq_left', State.setTop_setTop, State.heap_setTop]
    intro acts
    simp [jvm, (hst _ (Nat.le_refl _)).here.top]
    exact a1
end zMn2
/-! rows of rows -/
def zmna (σ : zSt) (c c2 n : Nat) : zSt := (fun a b e => if a = c2 ∧ zcn σ c2 ≤ b then 0 else σ.1 a b e, fun a b e => if a = c2 ∧ zcn σ c2 ≤ b then 0 else σ.2.1 a b e, fun a b e => if a = c ∧ b = zcn σ c then (if e < n then (c2, zcn σ c2 + e) else (0, 0)) else if a = c2 ∧ zcn σ c2 ≤ b then (0, 0) else σ.2.2.1 a b e, fun a => if a = c then zcn σ c + 1 else if a = c2 then zcn σ c2 + n else σ.2.2.2.1 a, fun a b => if a = c ∧ b = zcn σ c then ztp σ else if a = c2 ∧ zcn σ c2 ≤ b then ztp σ + 1 + (b - zcn σ c2) else σ.2.2.2.2.1 a b, (ztp σ + 1 + n, zsc σ))
section zNm
variable {ph : Bool} {d kc ks : Nat} {M : zMth} {pc : Nat} {L : List (Option zV)} {S : List zV} {σ : zSt} {Q : Option zV → zSt → Prop} {idx k k' c c2 n : Nat}
theorem zcn_mna (a : Nat) : zcn (zmna σ c c2 n) a = if a = c then zcn σ c + 1 else if a = c2 then zcn σ c2 + n else zcn σ a := rfl
theorem zgi_mna (a b e : Nat) : zgi (zmna σ c c2 n) a b e = if a = c2 ∧ zcn σ c2 ≤ b then 0 else zgi σ a b e := rfl
theorem zgl_mna (a b e : Nat) : zgl (zmna σ c c2 n) a b e = if a = c2 ∧ zcn σ c2 ≤ b then 0 else zgl σ a b e := rfl
theorem zgr_mna (a b e : Nat) : zgr (zmna σ c c2 n) a b e = if a = c ∧ b = zcn σ c then (if e < n then (c2, zcn σ c2 + e) else (0, 0)) else if a = c2 ∧ zcn σ c2 ≤ b then (0, 0) else zgr σ a b e := rfl
theorem zad_mna (a b : Nat) : zad (zmna σ c c2 n) a b = if a = c ∧ b = zcn σ c then ztp σ else if a = c2 ∧ zcn σ c2 ≤ b then ztp σ + 1 + (b - zcn σ c2) else zad σ a b := rfl
theorem zmna_lt (hcc : c ≠ c2) {a b : Nat} (h : b < zcn (zmna σ c c2 n) a) : (a = c ∧ b = zcn σ c) ∨ (a = c2 ∧ zcn σ c2 ≤ b ∧ b < zcn σ c2 + n) ∨ (b < zcn σ a ∧ ¬ (a = c ∧ b = zcn σ c) ∧ ¬ (a = c2 ∧ zcn σ c2 ≤ b)) := by
  rw [zcn_mna] at h
  by_cases e : a = c
  · subst e
    rw [if_pos rfl] at h
    by_cases e2 : b = zcn σ a
    · exact Or.inl ⟨rfl, e2⟩
    · exact Or.inr (Or.inr ⟨by omega, fun q => e2 q.2, fun q => hcc q.1⟩)
  · rw [if_neg e] at h
    by_cases e2 : a = c2
    · subst e2
      rw [if_pos rfl] at h
      by_cases e3 : zcn σ a ≤ b
      · exact Or.inr (Or.inl ⟨rfl, e3, h⟩)
      · exact Or.inr (Or.inr ⟨by omega, fun q => e q.1, fun q => e3 q.2⟩)
    · rw [if_neg e2] at h
      exact Or.inr (Or.inr ⟨h, fun q => e q.1, fun q => e2 q.1⟩)
theorem zmna_X : zX σ (zmna σ c c2 n) := by
  refine ⟨fun a b h => ⟨?_, ?_⟩, rfl⟩
  · rw [zcn_mna]
    split
    · next e => subst e; omega
    · split
      · next e => subst e; omega
      · exact h
  · rw [zad_mna, if_neg (fun q => by rw [q.1] at h; omega), if_neg (fun q => by rw [q.1] at h; omega)]
theorem zRP.mna {D : va_G} {acl : Nat → ClassId} {z : Nat} {H H' : Heap} (h : zRP false D acl z σ H) (h5 : 5 < c) (h52 : 5 < c2) (hcc : c ≠ c2) (hz : H'.size = H.size + 1 + n) (ho : ∀ q, q < H.size → H'[q]? = H[q]?) (hn : va_at D vwCl (H.size, zen acl (zmna σ c c2 n) c (zcn σ c)) H') (hn2 : ∀ i, i < n → va_at D vwCl (H.size + 1 + i, zen acl (zmna σ c c2 n) c2 (zcn σ c2 + i)) H') : zRP false D acl z (zmna σ c c2 n) H' := by
  obtain ⟨r1, r2, r3, r4, r5, r6, r7⟩ := h
  have hl : ∀ a b, 5 < a → b < zcn σ a → zad σ a b < ztp σ := fun a b g0 gj => by
    have := (r3 a b g0 gj).lt
    rw [r1] at this
    exact this
  have ad1 : zad (zmna σ c c2 n) c (zcn σ c) = ztp σ := by rw [zad_mna, if_pos ⟨rfl, rfl⟩]
  have ad2 : ∀ b, zcn σ c2 ≤ b → zad (zmna σ c c2 n) c2 b = ztp σ + 1 + (b - zcn σ c2) := fun b hb => by rw [zad_mna, if_neg (fun q => hcc q.1.symm), if_pos ⟨rfl, hb⟩]
  have ad3 : ∀ a b, ¬ (a = c ∧ b = zcn σ c) → ¬ (a = c2 ∧ zcn σ c2 ≤ b) → zad (zmna σ c c2 n) a b = zad σ a b := fun a b q1 q2 => by rw [zad_mna, if_neg q1, if_neg q2]
  refine ⟨by rw [hz, r1]; rfl, ⟨by show z ≤ ztp σ + 1 + n; have := r2.1; omega, r2.2.of (fun c' g1 g2 => ⟨by rw [zcn_mna, if_neg (by omega), if_neg (by omega)], by rw [zad_mna, if_neg (by omega), if_neg (by omega)], rfl, fun k => by rw [zgi_mna, if_neg (by omega)]⟩) (fun q hl => ho q (by have := r2.1; omega))⟩, fun a b g0 gj => ?_, fun a b a' b' g0 g0' gj gj' => ?_, fun a b g5 gj => ?_, fun a b e g0 gj => ?_, fun hp => by cases hp⟩
  · rcases zmna_lt hcc gj with ⟨rfl, rfl⟩ | ⟨rfl, h1, h2⟩ | ⟨hj, q1, q2⟩
    · rw [ad1, ← r1]; exact hn
    · rw [ad2 b h1, ← r1]
      have := hn2 (b - zcn σ a) (by omega)
      rw [show zcn σ a + (b - zcn σ a) = b by omega] at this
      exact this
    · rw [ad3 a b q1 q2, zen_X zmna_X (fun e => by rw [zgi_mna, if_neg q2]) (fun e => by rw [zgl_mna, if_neg q2]) (fun e => by rw [zgr_mna, if_neg q1, if_neg q2]) (fun e => r6 a b e (by omega) hj)]
      exact (r3 a b g0 hj).kept (ho _ (r3 a b g0 hj).lt)
  · rcases zmna_lt hcc gj with ⟨rfl, rfl⟩ | ⟨rfl, h1, h2⟩ | ⟨hj, q1, q2⟩
    · rw [ad1]
      rcases zmna_lt hcc gj' with ⟨rfl, rfl⟩ | ⟨rfl, h1', h2'⟩ | ⟨hj', q1', q2'⟩
      · exact fun _ => ⟨rfl, rfl⟩
      · rw [ad2 b' h1']; intro e; omega
      · rw [ad3 a' b' q1' q2']; intro e; have := hl a' b' g0' hj'; omega
    · rw [ad2 b h1]
      rcases zmna_lt hcc gj' with ⟨rfl, rfl⟩ | ⟨rfl, h1', h2'⟩ | ⟨hj', q1', q2'⟩
      · rw [ad1]; intro e; omega
      · rw [ad2 b' h1']; intro e; exact ⟨rfl, by omega⟩
      · rw [ad3 a' b' q1' q2']; intro e; have := hl a' b' g0' hj'; omega
    · rw [ad3 a b q1 q2]
      rcases zmna_lt hcc gj' with ⟨rfl, rfl⟩ | ⟨rfl, h1', h2'⟩ | ⟨hj', q1', q2'⟩
      · rw [ad1]; intro e; have := hl a b g0 hj; omega
      · rw [ad2 b' h1']; intro e; have := hl a b g0 hj; omega
      · rw [ad3 a' b' q1' q2']; exact r4 a b a' b' g0 g0' hj hj'
  · rcases zmna_lt hcc gj with ⟨rfl, rfl⟩ | ⟨rfl, h1, h2⟩ | ⟨hj, q1, q2⟩
    · rw [ad1]; exact r2.1
    · rw [ad2 b h1]; have := r2.1; omega
    · rw [ad3 a b q1 q2]; exact r5 a b g5 hj
  · rw [zgr_mna]
    rcases zmna_lt hcc gj with ⟨rfl, rfl⟩ | ⟨rfl, h1, h2⟩ | ⟨hj, q1, q2⟩
    · rw [if_pos ⟨rfl, rfl⟩]
      split
      · next he =>
        refine Or.inr ?_
        show zcn σ c2 + e < zcn (zmna σ a c2 n) c2
        rw [zcn_mna, if_neg (fun q => hcc q.symm), if_pos rfl]
        omega
      · exact Or.inl rfl
    · rw [if_neg (fun q => hcc q.1.symm), if_pos ⟨rfl, h1⟩]; exact Or.inl rfl
    · rw [if_neg q1, if_neg q2]; exact (r6 a b e g0 hj).mono zmna_X
theorem r_mna {ty : FieldType} {k1 k2 m : Nat} {x y : Int32} (hty : (ty = .long ∧ k1 = 7 ∧ k2 = 1) ∨ (ty = .int ∧ k1 = 8 ∧ k2 = 0)) (hw : Cond.classLink M.1.cls idx ("[" ++ (FieldType.array ty).toString) ∈ zT) (hw2 : Cond.arrayOver (.array ty) ∈ lw_tbl) (hw3 : Cond.arrayClass ty ∈ zT) (hc : zkd c = k1) (hc2 : zkd c2 = k2) (h5 : 5 < c) (h52 : 5 < c2) (hcc : c ≠ c2) (hn : zLn.getD c 0 = n) (hm : zLn.getD c2 0 = m) (hn2 : n ≤ 60000) (hm2 : m ≤ 60000) (hx9 : x = nI n) (hy9 : y = nI m) (hkc : kc = 1 + n + k) (hks : ks = n + n * m + k') (hd : decode M.2.1 pc = .ok (.multianewarray idx 2, 4)) (kk : zE false d k k' M (pc + 4) L (.inr (.inr (c, zcn σ c)) :: S) (zmna σ c c2 n) Q) : zE false d kc ks M pc L (.inl y :: .inl x :: S) σ Q := by
  intro D acl z p l e R s m' args below meth c1 H locs cells slots σe ls Zp mc ms hx g1 g2 g3 g4 g5 g6 hR hZ hS hX hL hV hQ
  have hx0 := hx
  subst hx9
  subst hy9
  subst hkc
  subst hks
  simp only [List.forall_mem_cons] at hV
  obtain ⟨x1, x2, x3, x4, x5, x6, x7, x8, x9⟩ := hx
  have hl : zln (zmna σ c c2 n) c = n := by rw [zln_ne h5, hn]
  have hl2 : zln (zmna σ c c2 n) c2 = m := by rw [zln_ne h52, hm]
  have en : (nI n).toNatClampNeg = n := nI_clamp (by omega)
  have em : (nI m).toNatClampNeg = m := nI_clamp (by omega)
  rw [List.map_cons, List.map_cons]
  refine W.mna x1 x2 x4 (x5 _ hw) (zAOA.use (x9.2.2 ty hw2)) (x5 _ hw3) rfl hd rfl (nI_nneg (by omega)) (nI_nneg (by omega)) (by rw [en]; omega) (by rw [em]; rcases hty with ⟨rfl, -⟩ | ⟨rfl, -⟩ <;> (show m * _ ≤ _; simp [componentBytes]; omega)) (by rw [em]; omega) (by rcases hty with ⟨rfl, -⟩ | ⟨rfl, -⟩ <;> rfl) (by rw [en]; omega) (by rw [en, em]; omega) fun cA comp F fA fC f1 hold f2 hrow => ?_
  rw [en, em] at *
  have hX1 : zX σ (zmna σ c c2 n) := zmna_X
  have hR' : zRP false D acl z (zmna σ c c2 n) F := by
    refine hR.mna h5 h52 hcc f1 hold ?_ (fun i hi => ?_)
    · have hk1 : 3 ≤ k1 ∧ k1 < 20 := by rcases hty with ⟨-, rfl, -⟩ | ⟨-, rfl, -⟩ <;> omega
      have hcA : cA = acl k1 := by
        rcases hty with ⟨rfl, rfl, -⟩ | ⟨rfl, rfl, -⟩
        · exact Option.some.inj (fA.symm.trans (x6.2 7 _ rfl).2)
        · exact Option.some.inj (fA.symm.trans (x6.2 8 _ rfl).2)
      rw [zen_aq hc hk1.1 hk1.2, hl]
      show F[H.size]? = some (vp_cell _ _)
      rw [f2, hcA, vp_cell_q]
      congr 2
      funext q
      by_cases hq : q < n
      · rw [if_pos hq, zgr_mna, if_pos ⟨rfl, rfl⟩, if_pos hq]
        show va_rf (some (H.size + 1 + q)) = va_rf (if c2 = 0 then none else some (zad (zmna σ c c2 n) c2 (zcn σ c2 + q)))
        rw [if_neg (by omega), zad_mna, if_neg (fun w => hcc w.1.symm), if_pos ⟨rfl, by omega⟩, hR.1]
        congr 2
        omega
      · rw [if_neg hq, zgr_mna, if_pos ⟨rfl, rfl⟩, if_neg hq]
        rfl
    · rcases hty with ⟨rfl, -, rfl⟩ | ⟨rfl, -, rfl⟩
      · have hcA : comp = acl 1 := Option.some.inj (fC.symm.trans (x6.2 1 _ rfl).2)
        rw [zen_al hc2, hl2]
        show F[H.size + 1 + i]? = some (vp_cell _ _)
        rw [hrow i hi, hcA, vp_cell_l]
        congr 2
        funext q
        rw [zgl_mna, if_pos ⟨rfl, by omega⟩]
        rfl
      · have hcA : comp = acl 0 := Option.some.inj (fC.symm.trans (x6.2 0 _ rfl).2)
        rw [zen_ai hc2, hl2]
        show F[H.size + 1 + i]? = some (vp_cell _ _)
        rw [hrow i hi, hcA, vp_cell_i]
        congr 2
        funext q
        rw [zgi_mna, if_pos ⟨rfl, by omega⟩]
        rfl
  have e9 : Value.ref H.size = zc (zmna σ c c2 n) (.inr (.inr (c, zcn σ c))) := by
    rw [zok_ad (by omega), zad_mna, if_pos ⟨rfl, rfl⟩, hR.1]
  have e8 : S.map (zc σ) = S.map (zc (zmna σ c c2 n)) := List.map_congr_left (fun v hv => (zc.mono hX1 (hV.2.2 v hv)).symm)
  have hfin := kk D acl z p l e R s m' args below meth c1 F (locs ++ (List.range n).map fun j => ⟨H.size, j⟩) (cells + 1 + n) (slots + n + n * m) σe ls Zp mc ms hx0 g1 g2 g3 g4 (by omega) (by omega) hR' hZ ⟨by rw [f1]; have := hS.1; omega, fun q w1 w2 => (hold q (Nat.lt_of_lt_of_le w1 hS.1)).trans (hS.2.1 q w1 w2), fun l2 hl2 => by
    rcases List.mem_append.mp hl2 with h | h
    · exact hS.2.2 l2 h
    · obtain ⟨j, -, rfl⟩ := List.mem_map.mp h
      show z ≤ H.size
      rw [hR.1]
      exact hR.2.1.1⟩ (hX.tr hX1) (hL.mono hX1) (by
    simp only [List.forall_mem_cons]
    refine ⟨Or.inr ?_, fun v hv => (hV.2.2 v hv).mono hX1⟩
    show zcn σ c < zcn (zmna σ c c2 n) c
    rw [zcn_mna, if_pos rfl]
    omega) hQ
  rw [List.map_cons, ← e9, ← e8] at hfin
  exact hfin
end zNm
