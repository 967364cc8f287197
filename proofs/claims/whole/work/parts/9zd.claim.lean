/-! THE CLAIM OUT OF ONE WALK OF THE LAW'S BODY. Your part is whole_start (and what it stands on); all else here is the same for every law, but numbers. -/
def R_law : String := "HeardPlacesLaw"
def lw_P (b : Addr) (xs : List Int32) (args : Array Value) (s : State) : Prop := args = #[.ref b] ∧ s.IntsAt b xs ∧ xs.length ≤ 3072 ∧ (Jvm.Cond.and given_1 narrow_1).before args s = true
def lw_Q (_ : Array Value) (s : State) (o : Outcome) (t : State) : Prop := o = .returned (some (.int 1)) ∧ Framed s o t [] 600000 7302250
def lw_Z (below : List Frame) (a : Array Value) (s : State) : State → Prop := fun t => ∃ o, t.status = .running ∧ Ended t below o ∧ lw_Q a s o t
/-- the law's own end, with 1 on the stack, nothing written that was there before, its room as the claim has it -/
theorem lw_ret {p : Program} {l : Launch} {e : Env} {s : State} {m : MethodId} {below : List Frame} {meth : Method} {c : Code} {b : Nat} (hx : p.tables.exec = Jvm.exec) (hb : c.code = code) (hr : meth.sig.returnType = ret) (hlocks : meth.locks = false) {pc : Nat} {H : Heap} {ls : Array Slot} (hdg : decode code pc = .ok (.ireturn, 1)) : W p l e room_1 s m #[Value.ref b] below meth c H [] 600000 7302250 (lw_Z below #[Value.ref b] s) (F0 m pc ls [.int 1]) := by
  intro T hT X
  obtain ⟨fs, hret, hrun, hended, hW, hframe⟩ := X.leave (v := some (.int 1)) (hlocks := hlocks) (fun h => by rw [hr] at h; cases h)
  have hmeth' : T.vm.method? m = some meth := X.method'
  refine ⟨T.setFrames fs, ?_, .returned (some (.int 1)), hrun, hended, rfl, ⟨_, rfl⟩, hW, hframe⟩
  jvm_step X.here [X.here.top, hx, hb, hdg, hmeth', hr, ret, narrow_b1]
  (try refine ⟨rfl, ?_⟩); (try refine ⟨rfl, ?_⟩)
  first | (intro acts; rw [hret _ acts rfl rfl rfl]) | rw [hret _ _ rfl rfl rfl]
  exact Steps.refl _
/-- what holds at the law's entry: the machine, the code, the tables' words (any of lw_tbl by 'hts w (by decide +kernel)'), the script of L ints xs at the cell b, what the Statement gives of the start (any of its parts by flat_of_before) -/
def lw_At (p : Program) (s : State) (m : MethodId) (meth : Method) (c : Code) (b L : Nat) (xs : Nat → Int32) : Prop :=
  p.tables.exec = Jvm.exec ∧ c.code = code ∧ meth.sig.returnType = ret ∧ c.maxLocals = 4 ∧ s.vm.findClass R_law = some m.cls ∧ (∀ w ∈ lw_tbl, w.before #[Value.ref b] s = true) ∧ va_X b L xs s s.heap ∧ b < s.heap.size ∧ meth.locks = false ∧ (Jvm.Cond.and given_1 narrow_1).before #[Value.ref b] s = true
/-- what the tables say of the classes and rows, at the law's entry -/
theorem st_K {args : Array Value} {s : State} (hts : ∀ w ∈ lw_tbl, w.before args s = true) : ∃ (D : va_G) (acl : Nat → ClassId), va_K D vwCl (zts acl) s := by
  have hT : ∀ w ∈ zT, w.before args s = true := fun w h => hts w (zT_lw h)
  have hI : ∀ ci : Nat, ∃ x : ClassId × (Nat → Nat), ∀ q : vw_C, vwCl[ci]? = some q → u_Kn s q.1 q.2.1 q.2.2 x.1 x.2 := fun ci => by
    by_cases h : ∃ q : vw_C, vwCl[ci]? = some q
    · obtain ⟨q, hq⟩ := h
      have hin : (Cond.instantiable q.1 q.2.2).before args s = true := by
        match ci, hq with
        | 0, hq => cases hq; exact hts _ (by decide +kernel)
        | 1, hq => cases hq; exact hts _ (by decide +kernel)
        | 2, hq => cases hq; exact hts _ (by decide +kernel)
        | 3, hq => cases hq; exact hts _ (by decide +kernel)
        | 4, hq => cases hq; exact hts _ (by decide +kernel)
        | 5, hq => cases hq; exact hts _ (by decide +kernel)
        | 6, hq => cases hq; exact hts _ (by decide +kernel)
        | 7, hq => cases hq; exact hts _ (by decide +kernel)
        | 8, hq => cases hq; exact hts _ (by decide +kernel)
        | 9, hq => cases hq; exact hts _ (by decide +kernel)
        | 10, hq => cases hq; exact hts _ (by decide +kernel)
        | 11, hq => cases hq; exact hts _ (by decide +kernel)
        | 12, hq => cases hq; exact hts _ (by decide +kernel)
        | k + 13, hq => simp [vwCl] at hq
      obtain ⟨cC, iS, hK⟩ := u_known hT (zCl_ok ci q hq).1 hin
      refine ⟨(cC, iS), fun q' hq' => ?_⟩
      cases hq.symm.trans hq'
      exact hK
    · exact ⟨(0, fun _ => 0), fun q hq => absurd ⟨q, hq⟩ h⟩
  obtain ⟨f, hf⟩ := Classical.axiomOfChoice hI
  have arr : ∀ t : FieldType, (∀ C, t ≠ .object C) → (Cond.arrayClass t).before args s = true → ∃ c : ClassId, ArrOfT s c t ∧ va_RA s c t := fun t hne h => by
    obtain ⟨comp, kC, cc, h1, h2, h3⟩ := Cond.arrayClass_spec h
    refine ⟨comp, fun n z => ⟨(fun k q => by cases q), kC, h2, cc, h3⟩, ?_⟩
    cases t <;> first | exact absurd rfl (hne _) | exact h1
  have obj : ∀ C : String, (Cond.arrayOver (.object C)).before args s = true → ∃ c : ClassId, ArrOfT s c (.object C) ∧ va_RA s c (.object C) := fun C h => by
    obtain ⟨comp, cA, kA, h1, h2, h3, h4, h5⟩ := Cond.arrayOver_spec h
    exact ⟨cA, fun n z => ⟨(fun k q => by cases q), kA, h3, comp, h4⟩, kA, comp, h3, h4, h1, h5⟩
  have aoa : ∀ t : FieldType, (Cond.arrayOver (.array t)).before args s = true → ∃ c : ClassId, ArrOfT s c (.array t) ∧ va_RA s c (.array t) := fun t h => by
    obtain ⟨comp, cA, kA, h1, h2, h3, h4, h5⟩ := arrayOverA_spec h
    exact ⟨cA, fun n z => ⟨(fun k q => by cases q), kA, h3, comp, h4⟩, h5⟩
  obtain ⟨a0, p0⟩ := arr .int (fun _ => by simp) (hts _ (by decide +kernel))
  obtain ⟨a1, p1⟩ := arr .long (fun _ => by simp) (hts _ (by decide +kernel))
  obtain ⟨a2, p2⟩ := arr .boolean (fun _ => by simp) (hts _ (by decide +kernel))
  obtain ⟨a3, p3⟩ := obj RX1 (hts _ (by decide +kernel))
  obtain ⟨a4, p4⟩ := obj RX9 (hts _ (by decide +kernel))
  obtain ⟨a5, p5⟩ := obj RX5 (hts _ (by decide +kernel))
  obtain ⟨a6, p6⟩ := obj RX8 (hts _ (by decide +kernel))
  obtain ⟨a7, p7⟩ := aoa .long (hts _ (by decide +kernel))
  obtain ⟨a8, p8⟩ := aoa .int (hts _ (by decide +kernel))
  refine ⟨(fun ci => (f ci).1, fun ci => (f ci).2), fun k => [a0, a1, a2, a3, a4, a5, a6, a7, a8].getD k a0, fun c q hq => hf c q hq, fun k q hq => ?_⟩
  match k, hq with
  | 0, hq => cases hq; exact p0
  | 1, hq => cases hq; exact p1
  | 2, hq => cases hq; exact p2
  | 3, hq => cases hq; exact p3
  | 4, hq => cases hq; exact p4
  | 5, hq => cases hq; exact p5
  | 6, hq => cases hq; exact p6
  | 7, hq => cases hq; exact p7
  | 8, hq => cases hq; exact p8
  | k + 9, hq => simp [zts] at hq
theorem st_N {args : Array Value} {s : State} (hts : ∀ w ∈ lw_tbl, w.before args s = true) : zN s := ⟨fun a i x h hm => va_Nw.of rfl (hts _ hm), fun C hm => va_AO.of (hts _ hm), fun ty hm => hts _ hm⟩
/-- one of the four rows of the turnings -/
theorem st_T {args : Array Value} {s : State} {nm : String} {v : Nat → Int32} (h1 : (Cond.arrayOf (.static "HeardPlaces$Flips" nm "[I") .int).before args s = true) (h2 : (Cond.eq (.length (.static "HeardPlaces$Flips" nm "[I")) (.int 8)).before args s = true) (h3 : ∀ j : Nat, j < 8 → (Cond.eq (.elem (.static "HeardPlaces$Flips" nm "[I") (.int (Int32.ofNat j))) (.int (v j))).before args s = true) (hl : (Cond.laysStatic "HeardPlaces$Flips" nm "[I").before args s = true) (hi : (Cond.initialized "HeardPlaces$Flips").before args s = true) : ∃ t : Nat, va_Z "HeardPlaces$Flips" nm "[I" (.ref t) (zA s.heap.size) s s.heap ∧ ∃ cell : Cell, s.heap[t]? = some cell ∧ s.isArrayOf cell .int ∧ t < s.heap.size ∧ cell.vm ≠ .unknown ∧ (8 ≤ cell.slots.size ∧ cell.slots.size.toInt32 = Int32.ofNat 8) ∧ ∀ k, k < 8 → cell.slots[k]? = some (.int (v k)) := by
  have hA : ∀ a : Nat, a < s.heap.size → ¬ zA s.heap.size a := fun a h => Nat.not_le.mpr h
  obtain ⟨t, e, cell, c1, c2, c3, c4, c5, c6, c7⟩ := va_Tof (N := 8) (f := fun j => .int (v j)) (A := zA s.heap.size) (by decide) h1 (va_eqt h2) (fun j hj => va_eqt (h3 j hj)) hA
  exact ⟨t, va_Zref hl hi e hA, cell, c1, c2, Nat.not_le.mp c7, c3, ⟨c4, c5⟩, c6⟩
/-- the state at the law's entry: the script, the four rows of the turnings, nothing made -/
def zS0 (b t2 t3 t4 t5 N L : Nat) (xs : Nat → Int32) : zSt := (fun c _ k => if c = 1 then xs k else if c = 2 then iI (tXX k) else if c = 3 then iI (tXY k) else if c = 4 then iI (tYX k) else if c = 5 then iI (tYY k) else 0, fun _ _ _ => 0, fun _ _ _ => (0, 0), fun c => if c < 6 then 1 else 0, fun c _ => if c = 1 then b else if c = 2 then t2 else if c = 3 then t3 else if c = 4 then t4 else t5, (N, L))
/-- YOUR PART: from the entry, for every script of at most 3072 ints, the law comes to its end with true ('hflags': the launch's flags, for a law that throws: no stack traces) -/
theorem whole_start {p : Program} {e : Env} {s : State} {m : MethodId} {below : List Frame} {meth : Method} {c : Code} (l : Launch) (hflags : l.flags = flags0) {b L : Nat} {xs : Nat → Int32} (hL : L ≤ 3072) (C0 : lw_At p s m meth c b L xs) : W p l e room_1 s m #[Value.ref b] below meth c s.heap [] 0 0 (lw_Z below #[Value.ref b] s) (entryFrame m ([Value.ref b] : List Value).toArray 4) := by
  obtain ⟨hx, hb, hr, hml, hown, hts, hX, hbl, hlocks, hgv⟩ := C0
  obtain ⟨D, acl, hK⟩ := st_K hts
  have hs := flat_of_before _ hgv
  obtain ⟨t2, z2, e2, f2, g2, i2, j2, k2, l2⟩ := st_T (nm := "XX") (v := fun j => iI (tXX j)) (hs _ (by decide +kernel)) (hs _ (by decide +kernel)) (fun j hj => by
    match j, hj with
    | 0, _ => exact hs _ (by decide +kernel)
    | 1, _ => exact hs _ (by decide +kernel)
    | 2, _ => exact hs _ (by decide +kernel)
    | 3, _ => exact hs _ (by decide +kernel)
    | 4, _ => exact hs _ (by decide +kernel)
    | 5, _ => exact hs _ (by decide +kernel)
    | 6, _ => exact hs _ (by decide +kernel)
    | 7, _ => exact hs _ (by decide +kernel)
    | k + 8, h => exact absurd h (by omega)) (hts _ (by decide +kernel)) (hts _ (by decide +kernel))
  obtain ⟨t3, z3, e3, f3, g3, i3, j3, k3, l3⟩ := st_T (nm := "XY") (v := fun j => iI (tXY j)) (hs _ (by decide +kernel)) (hs _ (by decide +kernel)) (fun j hj => by
    match j, hj with
    | 0, _ => exact hs _ (by decide +kernel)
    | 1, _ => exact hs _ (by decide +kernel)
    | 2, _ => exact hs _ (by decide +kernel)
    | 3, _ => exact hs _ (by decide +kernel)
    | 4, _ => exact hs _ (by decide +kernel)
    | 5, _ => exact hs _ (by decide +kernel)
    | 6, _ => exact hs _ (by decide +kernel)
    | 7, _ => exact hs _ (by decide +kernel)
    | k + 8, h => exact absurd h (by omega)) (hts _ (by decide +kernel)) (hts _ (by decide +kernel))
  obtain ⟨t4, z4, e4, f4, g4, i4, j4, k4, l4⟩ := st_T (nm := "YX") (v := fun j => iI (tYX j)) (hs _ (by decide +kernel)) (hs _ (by decide +kernel)) (fun j hj => by
    match j, hj with
    | 0, _ => exact hs _ (by decide +kernel)
    | 1, _ => exact hs _ (by decide +kernel)
    | 2, _ => exact hs _ (by decide +kernel)
    | 3, _ => exact hs _ (by decide +kernel)
    | 4, _ => exact hs _ (by decide +kernel)
    | 5, _ => exact hs _ (by decide +kernel)
    | 6, _ => exact hs _ (by decide +kernel)
    | 7, _ => exact hs _ (by decide +kernel)
    | k + 8, h => exact absurd h (by omega)) (hts _ (by decide +kernel)) (hts _ (by decide +kernel))
  obtain ⟨t5, z5, e5, f5, g5, i5, j5, k5, l5⟩ := st_T (nm := "YY") (v := fun j => iI (tYY j)) (hs _ (by decide +kernel)) (hs _ (by decide +kernel)) (fun j hj => by
    match j, hj with
    | 0, _ => exact hs _ (by decide +kernel)
    | 1, _ => exact hs _ (by decide +kernel)
    | 2, _ => exact hs _ (by decide +kernel)
    | 3, _ => exact hs _ (by decide +kernel)
    | 4, _ => exact hs _ (by decide +kernel)
    | 5, _ => exact hs _ (by decide +kernel)
    | 6, _ => exact hs _ (by decide +kernel)
    | 7, _ => exact hs _ (by decide +kernel)
    | k + 8, h => exact absurd h (by omega)) (hts _ (by decide +kernel)) (hts _ (by decide +kernel))
  obtain ⟨scr, x1, x2, x3, x4, x5⟩ := hX
  have hcx : zcx D acl s.heap.size M_L_law p s m #[Value.ref b] meth c := ⟨hx, hb, hml, hown, fun w h => hts w (zT_lw h), hK, Nat.le_refl _, fun h => absurd h (by decide), st_N hts⟩
  have hcell : ∀ a, 0 < a → a < 6 → ∃ cell : Cell, s.heap[zad (zS0 b t2 t3 t4 t5 s.heap.size L xs) a 0]? = some cell ∧ s.isArrayOf cell .int ∧ zad (zS0 b t2 t3 t4 t5 s.heap.size L xs) a 0 < s.heap.size ∧ cell.vm ≠ .unknown ∧ (zln (zS0 b t2 t3 t4 t5 s.heap.size L xs) a ≤ cell.slots.size ∧ cell.slots.size.toInt32 = Int32.ofNat (zln (zS0 b t2 t3 t4 t5 s.heap.size L xs) a)) ∧ ∀ k, k < zln (zS0 b t2 t3 t4 t5 s.heap.size L xs) a → cell.slots[k]? = some (.int (zgi (zS0 b t2 t3 t4 t5 s.heap.size L xs) a 0 k)) := fun a h1 h2 => by
    rcases (show a = 1 ∨ a = 2 ∨ a = 3 ∨ a = 4 ∨ a = 5 by omega) with rfl | rfl | rfl | rfl | rfl
    · exact ⟨scr, x1, x2, hbl, x3, ⟨Nat.le_of_eq x4.symm, by rw [x4]; rfl⟩, x5⟩
    · exact ⟨e2, f2, g2, i2, j2, k2, l2⟩
    · exact ⟨e3, f3, g3, i3, j3, k3, l3⟩
    · exact ⟨e4, f4, g4, i4, j4, k4, l4⟩
    · exact ⟨e5, f5, g5, i5, j5, k5, l5⟩
  have hn : ∀ a, 5 < a → zcn (zS0 b t2 t3 t4 t5 s.heap.size L xs) a = 0 := fun a h => if_neg (by omega)
  have hRP : zRP false D acl s.heap.size (zS0 b t2 t3 t4 t5 s.heap.size L xs) s.heap := by
    refine ⟨rfl, ⟨Nat.le_refl _, fun a h1 h2 => ?_⟩, fun a j h1 h2 => ?_, fun a j a' j' h1 h2 h3 h4 => ?_, fun a j h1 h2 => ?_, fun a j k h1 h2 => Or.inl rfl, fun h => by cases h⟩
    · obtain ⟨cell, q1, q2, q3, q4, q5, q6⟩ := hcell a h1 h2
      exact ⟨if_pos h2, q3, cell, q1, q4, q5, q6⟩
    · rw [hn a h1] at h2; exact absurd h2 (Nat.not_lt_zero _)
    · rw [hn a h1] at h3; exact absurd h3 (Nat.not_lt_zero _)
    · rw [hn a h1] at h2; exact absurd h2 (Nat.not_lt_zero _)
  have hSZ : zSZ s.heap.size (zS0 b t2 t3 t4 t5 s.heap.size L xs) s := by
    refine ⟨⟨z2, z3, z4, z5⟩, fun a h => ?_, fun a h1 h2 => ?_⟩
    · rw [show zcn (zS0 b t2 t3 t4 t5 s.heap.size L xs) a = 1 from if_pos h]; exact Nat.one_pos
    · obtain ⟨cell, q1, q2, q3, q4, q5, q6⟩ := hcell a h1 h2
      exact ⟨cell, q1, q2, q3⟩
  have hZ0 : zZ0 (zS0 b t2 t3 t4 t5 s.heap.size L xs) := fun a j k h1 h2 => by
    refine ⟨?_, rfl, rfl⟩
    show (if a = 1 then xs k else if a = 2 then iI (tXX k) else if a = 3 then iI (tXY k) else if a = 4 then iI (tYX k) else if a = 5 then iI (tYY k) else 0) = 0
    rw [if_neg (by omega), if_neg (by omega), if_neg (by omega), if_neg (by omega), if_neg (by omega)]
  have hT : zXT (zS0 b t2 t3 t4 t5 s.heap.size L xs) := fun k hk => ⟨rfl, rfl, rfl, rfl⟩
  have hE : zE false (0 + 16) (1 + (335 + (1 + (47 + 16 * (512 + 1))))) (16 + (78329 + (83 + (25099 + 88 * (512 + 1))))) M_L_law 0 [some (.inr (.inr (1, 0))), none, none, none] [] (zS0 b t2 t3 t4 t5 s.heap.size L xs) (fun r _ => r = some (.inl 1)) := L_law_start (d := 0) hZ0 (fun a h1 h2 => hn a (by omega)) hT (fun τ q1 q2 q3 q4 => L_law_loop (d := 0) hL (fun _ => rfl) 512 0 τ (by omega) (by omega) q2 q3)
  rw [lg_entry_eq]
  have hL0 := zL0_ok (σ := zS0 b t2 t3 t4 t5 s.heap.size L xs) (As := [.inr (.inr (1, 0))]) (n := 4) (by decide) (fun v hv => by
    cases List.mem_singleton.mp hv
    exact Or.inr (by rw [show zcn (zS0 b t2 t3 t4 t5 s.heap.size L xs) 1 = 1 from rfl]; exact Nat.one_pos))
  refine hE D acl s.heap.size p l e room_1 s m _ below meth c s.heap [] 0 0 (zS0 b t2 t3 t4 t5 s.heap.size L xs) _ _ 600000 7302250 hcx (by decide) (by decide) (Nat.le_refl _) (Nat.le_refl _) (by decide) (by decide) hRP hSZ va_S.rf zX.rf hL0 (fun v h => by cases h) ?_
  intro r σ' H' locs' pc' ls' hq hR' hS' hX' hv hro
  subst hq
  exact va_forget (fun q hq => hS'.2.2 q hq) (lw_ret hx hb hr hlocks hro.1)
-- ===== YOUR PART ENDS =====
set_option maxHeartbeats 4000000 in
theorem lw_walk (l : Launch) (hflags : l.flags = flags0) (b : Addr) (xs : List Int32) : MetFree l x (headSpec (Jvm.Cond.code x code maxLocals ret :: tables_1) room_1) (lw_P b xs) (fun _ _ _ _ _ => True) lw_Q := by
  refine MetFree.of_bodyS (code := code) (maxLocals := maxLocals) (ret := ret) (by decide) ?_ ?_
  · intro args s m h hn
    obtain ⟨meth, c, h1, h2, h3, h4, h5, h6, -, -⟩ := Cond.code_spec hn (atoms_spec (ws := Jvm.Cond.code x code maxLocals ret :: tables_1) h _ List.mem_cons_self)
    exact ⟨meth, c, h1, h2, h3, h4, h5, h6⟩
  · intro p e s m args below meth c s₁ B hml0 hP _
    obtain ⟨rfl, hx, hbd, hgv⟩ := hP
    obtain ⟨scr, harrAt, hlist, hof, hsmall⟩ := hx
    obtain ⟨hcb, hkn, -, -⟩ := State.arrayAt?_spec harrAt
    have hown : s.vm.findClass R_law = some m.cls := findClass_of_methodNamed B.named
    have hts0 : ∀ c ∈ (Jvm.Cond.code x code maxLocals ret :: tables_1), c.before #[Value.ref b] s = true := atoms_spec (ws := Jvm.Cond.code x code maxLocals ret :: tables_1) B.pre
    have hts : ∀ w ∈ lw_tbl, w.before #[Value.ref b] s = true := k2_hts_sels lw_privs (fun w hw => hts0 w (List.mem_cons_of_mem _ hw)) lw_privs_ok
    have hml : c.maxLocals = 4 := B.maxLocals_eq (hts0 _ List.mem_cons_self)
    have X₀ : Stand p l e room_1 s m #[Value.ref b] below meth c s₁ [] 0 0 := Stand.of_body B
    have hh0 : s₁.heap = s.heap := by rw [B.state]; rfl
    have hsz : scr.slots.size = xs.length := by rw [← Array.length_toList, hlist, List.length_map]
    have hval : ∀ j : Nat, j < xs.length → scr.slots[j]? = some (.int (xs.getD j 0)) := fun j hj => by
      rw [← Array.getElem?_toList, hlist]
      simp [hj]
    have hbl : b < s.heap.size := (Array.getElem?_eq_some_iff.mp hcb).1
    have hX : va_X b xs.length (fun j => xs.getD j 0) s s.heap := ⟨scr, hcb, hof, hkn, hsz, hval⟩
    have K : W p l e room_1 s m #[Value.ref b] below meth c s₁.heap [] 0 0 (lw_Z below #[Value.ref b] s) (entryFrame m ([Value.ref b] : List Value).toArray 4) := by
      rw [hh0]
      exact whole_start l hflags hbd ⟨B.exec, B.bytes, B.returns, hml, hown, hts, hX, hbl, B.notSynchronized, hgv⟩
    obtain ⟨t, a1, o, b1, b2, b3⟩ := K s₁ rfl X₀
    exact ⟨t, o, a1, b1, b2, b3⟩
theorem lw_pre_spec {args : Array Value} {s : State} (h : (Jvm.Cond.and given_1 narrow_1).before args s = true) (hr : rest_1_c.before args s = true) : ∃ (b : Addr) (xs : List Int32), lw_P b xs args s := by
  have hs := flat_of_before _ h
  have hq := flat_of_before _ hr
  have hc : (Cond.count 1).before args s = true := hs _ (by decide +kernel)
  have harr : (Cond.arrayOf (.arg 0) .int).before args s = true := hs _ (by decide +kernel)
  have hle : (Cond.le (.length (.arg 0)) (.int 3072)).before args s = true := hs _ (by decide +kernel)
  have hlen : (Cond.isInt (.length (.arg 0))).before args s = true := hq _ (by decide +kernel)
  have hall : (Cond.all (.arg 0) (.isInt (.elem (.arg 0) (.index 0)))).before args s = true := hq _ (by decide +kernel)
  obtain ⟨b, xs, hb, hx⟩ := State.ints_of_pre rfl harr hlen hall
  have hsm : xs.length < 2 ^ 31 := hx.choose_spec.2.2.2
  have hev : (Term.length (.arg 0)).eval args s none [] s = some (.int xs.length.toInt32) := hx.length_eval hb
  have hv := Cond.le_ints hev (show (Term.int 3072).eval args s none [] s = some (.int 3072) from rfl)
  have hd : xs.length.toInt32 ≤ 3072 := by
    simpa [Cond.before, Cond.holds, hv] using hle
  have hN : xs.length ≤ 3072 := (Int32.ofNat_le_ofNat hsm (by decide)).mp (show Int32.ofNat xs.length ≤ Int32.ofNat 3072 from hd)
  exact ⟨b, xs, Cond.one_arg hc (show args[0]? = some (.ref b) from hb), hx, hN, h⟩
theorem lw_comes (l : Launch) (hflags : l.flags = flags0) : Comes l x (Jvm.Cond.code x code maxLocals ret :: tables_1) room_1 (fun tb e args s => Calls_1 tb e args s ∧ rest_1 tb e args s ∧ Pre_1 tb e args s)
    (fun _ _ args s o t => lw_Q args s o t) := by
  intro p e ha hc hk s m args below hf hfit hheap happ hpre
  obtain ⟨b, xs, hP⟩ := lw_pre_spec hpre.2.2 hpre.2.1
  obtain ⟨k, o, h1, h2, h3, hQ⟩ := lw_walk l hflags b xs p e ha hc hk s m args below hf ((Spec.applies_iff_loose hf).mp happ).1 hP trivial
  exact ⟨k, o, h1, h2, h3, hQ⟩
theorem lw_frame {s t : State} {o : Outcome} {args : Array Value} (h : Framed s o t [] 600000 7302250) :
    Framed s o t (fieldLocs frame_1_writes args s ++ arrayLocs frame_1_arrays args s ++ staticLocs frame_1_statics s) 600000 7302250 := h
theorem lw_limb (L : Cond) (hL : ∀ (args : Array Value) (s t : State), L.after args s (.returned (some (.int 1))) t = true) :
    ArmFor flags0 classFile x code maxLocals ret World_1 tables_1 room_1 Calls_1 rest_1 Pre_1
      (fun tb e a s o t => postC L tb e a s o t ∧ Framed s o t (fieldLocs frame_1_writes a s ++ arrayLocs frame_1_arrays a s ++ staticLocs frame_1_statics s) 600000 7302250) := by
  intro l hflags _ _ p e ha hc hk s m args below hf hfit hheap happ hpre
  obtain ⟨k, o, h1, h2, h3, rfl, hF⟩ := lw_comes l hflags p e ha hc hk s m args below hf hfit hheap happ hpre
  exact ⟨k, _, h1, h2, h3, hL args s _, lw_frame hF⟩
theorem i_vc : Claimed_1_1 ∧ Claimed_1_2 := ⟨lw_limb limb_1_1 (fun args s t => by simp [limb_1_1, Cond.after, Cond.holds, Cond.value]), lw_limb limb_1_2 (fun args s t => Cond.after_iff.mpr (by
  first | (rw [show limb_1_2 = Cond.eq .result (.int 1) from rfl, Cond.eq_ints (x := 1) (y := 1) rfl rfl]; simp; done) | (simp [limb_1_2, Cond.value, Term.eval]; done)))⟩
