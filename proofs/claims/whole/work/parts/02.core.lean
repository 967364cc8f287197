/-! THE ABSTRACT MACHINE: values, states, and the judgement zE: a frame of a method over an abstract state comes to an end with Q -/
abbrev zV : Type := Int32 ⊕ (Int64 ⊕ (Nat × Nat))
abbrev zSt : Type := (Nat → Nat → Nat → Int32) × (Nat → Nat → Nat → Int64) × (Nat → Nat → Nat → Nat × Nat) × (Nat → Nat) × (Nat → Nat → Nat) × (Nat × Nat)
def zgi (σ : zSt) (c j k : Nat) : Int32 := σ.1 c j k
def zgl (σ : zSt) (c j k : Nat) : Int64 := σ.2.1 c j k
def zgr (σ : zSt) (c j k : Nat) : Nat × Nat := σ.2.2.1 c j k
def zcn (σ : zSt) (c : Nat) : Nat := σ.2.2.2.1 c
def zad (σ : zSt) (c j : Nat) : Nat := σ.2.2.2.2.1 c j
def ztp (σ : zSt) : Nat := σ.2.2.2.2.2.1
def zsc (σ : zSt) : Nat := σ.2.2.2.2.2.2
def zsi (σ : zSt) (c j k : Nat) (x : Int32) : zSt := (fun a b e => if a = c ∧ b = j ∧ e = k then x else σ.1 a b e, σ.2)
def zsl (σ : zSt) (c j k : Nat) (x : Int64) : zSt := (σ.1, fun a b e => if a = c ∧ b = j ∧ e = k then x else σ.2.1 a b e, σ.2.2)
def zsr (σ : zSt) (c j k : Nat) (x : Nat × Nat) : zSt := (σ.1, σ.2.1, fun a b e => if a = c ∧ b = j ∧ e = k then x else σ.2.2.1 a b e, σ.2.2.2)
def zrv (σ : zSt) (r : Nat × Nat) : Option Nat := if r.1 = 0 then none else some (zad σ r.1 r.2)
def zc (σ : zSt) : zV → Value
  | .inl x => .int x
  | .inr (.inl y) => .long y
  | .inr (.inr r) => va_rf (zrv σ r)
def zok (σ : zSt) : zV → Prop
  | .inr (.inr r) => r.1 = 0 ∨ r.2 < zcn σ r.1
  | _ => True
def zcat : zV → Nat
  | .inr (.inl _) => 2
  | _ => 1
/-! the tables of the abstract state (printed by wip/whole/gen_tables.py): kinds 0 int, 1 long, 2 boolean, 3 .. 8 rows of references, 20 + ci objects -/
def zKd : List Nat := [99, 0, 0, 0, 0, 0, 31, 21, 23, 24, 26, 27, 22, 30, 20, 28, 29, 25, 3, 2, 4, 5, 6, 4, 1, 0, 5, 0, 0, 0, 0, 7, 1, 7, 1, 7, 1, 1, 1, 0, 0, 1, 1, 7, 1, 0, 8, 0, 0, 0, 0, 7, 1, 1, 32, 2, 0, 0, 0, 2, 0, 0, 0, 0, 0, 0, 0, 0, 2, 0, 0, 0, 2, 0, 0, 1, 1, 2, 1, 1, 2, 0, 0, 1, 0, 0, 0, 0, 0, 1, 0, 2, 0, 0, 0, 0, 0, 0, 0, 0, 1, 1]
def zLn : List Nat := [0, 0, 8, 8, 8, 8, 0, 0, 0, 0, 0, 0, 0, 0, 0, 0, 0, 0, 2, 2, 8, 8, 4, 24, 24, 24, 60, 3, 3, 3, 24, 99, 64, 4, 64, 60, 64, 24, 24, 24, 9, 60000, 9, 81, 64, 9, 9, 64, 3, 99, 24, 8, 64, 64, 0, 64, 24, 24, 96, 24, 24, 24, 24, 60, 60, 60, 60, 60, 60, 3, 3, 3, 60, 64, 64, 3840, 3840, 60, 24, 24, 60, 24, 24, 5184, 576, 8019, 9, 24, 24, 512, 24, 2, 1600, 8, 8, 8, 8, 8, 4, 4, 256, 64]
def zCo : List (List (Nat × Nat)) := [[], [], [], [], [], [], [(7, 0), (8, 0), (9, 0), (10, 0), (11, 0), (12, 0), (13, 0), (14, 0), (18, 0), (19, 0), (20, 0), (21, 0), (22, 0), (0, 0), (0, 0), (0, 0)], [(0, 0), (0, 0), (0, 0), (0, 0), (23, 1), (24, 1), (25, 1), (0, 0), (0, 0), (26, 1), (0, 0), (0, 0), (27, 1), (28, 1), (29, 1), (0, 0), (30, 1)], [(31, 0), (33, 0)], [(7, 0), (8, 0), (35, 0), (0, 0)], [(7, 0), (9, 0), (37, 0), (38, 0), (0, 0), (0, 0), (0, 0), (0, 0), (0, 0), (0, 0), (39, 0)], [(7, 0), (9, 0), (10, 0), (0, 0), (0, 0), (40, 0), (0, 0), (0, 0), (0, 0), (41, 0), (42, 0), (43, 0), (0, 0), (45, 0), (0, 0), (46, 0), (0, 0), (48, 0), (49, 0)], [(7, 0), (9, 0), (50, 0), (0, 0), (0, 0), (0, 0), (0, 0), (0, 0), (0, 0), (0, 0)], [(7, 0), (8, 0), (10, 0), (51, 0), (0, 0)], [], [(0, 0), (0, 0), (53, 1)], [], [], [(7, 3)], [], [], [], [(15, 2)], [], [], [], [], [], [], [], [], [(32, 2)], [], [(34, 2)], [], [(36, 2)], [], [], [], [], [], [], [], [(44, 2)], [], [], [(47, 2)], [], [], [], [], [(52, 2)], [], [], [(0, 0), (0, 0), (0, 0), (55, 0), (0, 0), (56, 0), (57, 0), (58, 0), (59, 0), (60, 0), (61, 0), (62, 0), (0, 0), (63, 0), (64, 0), (65, 0), (66, 0), (67, 0), (68, 0), (0, 0), (69, 0), (70, 0), (71, 0), (0, 0), (72, 0), (0, 0), (0, 0), (0, 0), (73, 0), (74, 0), (75, 0), (76, 0), (77, 0), (78, 0), (79, 0), (0, 0), (80, 0), (0, 0), (81, 0), (82, 0), (83, 0), (0, 0), (0, 0), (0, 0), (84, 0), (85, 0), (0, 0), (86, 0), (0, 0), (0, 0), (0, 0), (0, 0), (0, 0), (0, 0), (0, 0), (0, 0), (0, 0), (0, 0), (0, 0), (0, 0), (0, 0), (0, 0), (0, 0), (0, 0), (0, 0), (87, 0), (88, 0), (89, 0), (0, 0), (0, 0), (90, 0), (91, 0), (92, 0), (93, 0), (94, 0), (95, 0), (96, 0), (97, 0), (0, 0), (98, 0), (99, 0), (100, 0), (101, 0)], [], [], [], [], [], [], [], [], [], [], [], [], [], [], [], [], [], [], [], [], [], [], [], [], [], [], [], [], [], [], [], [], [], [], [], [], [], [], [], [], [], [], [], [], [], [], []]
def zty (ci k : Nat) : FieldType := match ci with
  | 0 => tyX0 k
  | 1 => tyX1 k
  | 2 => tyX2 k
  | 3 => tyX3 k
  | 4 => tyX4 k
  | 5 => tyX5 k
  | 6 => tyX6 k
  | 7 => tyX7 k
  | 8 => tyX8 k
  | 9 => tyX9 k
  | 10 => tyX10 k
  | 11 => tyX11 k
  | _ => tyX12 k
def zNf : List Nat := [1, 17, 10, 2, 4, 6, 11, 19, 3, 5, 5, 16, 83]
def zkd (c : Nat) : Nat := zKd.getD c 99
def zln (σ : zSt) (c : Nat) : Nat := if c = 1 then zsc σ else zLn.getD c 0
/-- what a constant reference is: of a field of an object, of a place of a row of references -/
def zct (c j k : Nat) : Nat × Nat :=
  let e := if zkd c < 20 then (zCo.getD c []).getD 0 (0, 0) else (zCo.getD c []).getD k (0, 0)
  (e.1, if e.2 = 0 then 0 else if e.2 = 1 then j else if e.2 = 2 then k else k + 1)
def zfv (σ : zSt) (t : FieldType) (c j k : Nat) : Value := match t with
  | .long => .long (zgl σ c j k)
  | .array _ => va_rf (zrv σ (zgr σ c j k))
  | .object _ => va_rf (zrv σ (zgr σ c j k))
  | _ => .int (zgi σ c j k)
def zen (acl : Nat → ClassId) (σ : zSt) (c j : Nat) : va_E :=
  if zkd c < 20 then .inl (acl (zkd c), zln σ c, if zkd c = 1 then .inr (.inl (fun k => zgl σ c j k)) else if zkd c < 3 then .inl (fun k => zgi σ c j k) else .inr (.inr (.inr (.inr (fun k => zrv σ (zgr σ c j k))))))
  else .inr (zkd c - 20, (List.range (zNf.getD (zkd c - 20) 0)).map (fun k => zfv σ (zty (zkd c - 20) k) c j k))
def zts (acl : Nat → ClassId) : List (ClassId × FieldType) := [(acl 0, .int), (acl 1, .long), (acl 2, .boolean), (acl 3, .object RX1), (acl 4, .object RX9), (acl 5, .object RX5), (acl 6, .object RX8), (acl 7, .array .long), (acl 8, .array .int)]
/-- the constants stand -/
def zK (σ : zSt) : Prop := ∀ c j k, 0 < c → j < zcn σ c → (zct c j k).1 ≠ 0 → (zkd c < 20 → k < zLn.getD c 0) → zgr σ c j k = zct c j k
def zA (z : Nat) : Nat → Prop := fun q => z ≤ q
/-- what was there before: the script, the four rows of the turnings; it is only read -/
def zRo (z : Nat) (σ : zSt) (H : Heap) : Prop := ∀ c, 0 < c → c < 6 → zcn σ c = 1 ∧ zad σ c 0 < z ∧ ∃ cell : Cell, H[zad σ c 0]? = some cell ∧ cell.vm ≠ .unknown ∧ (zln σ c ≤ cell.slots.size ∧ cell.slots.size.toInt32 = Int32.ofNat (zln σ c)) ∧ ∀ k, k < zln σ c → cell.slots[k]? = some (.int (zgi σ c 0 k))
theorem zRo.of {z : Nat} {σ σ' : zSt} {H H' : Heap} (h : zRo z σ H) (h1 : ∀ c, 0 < c → c < 6 → zcn σ' c = zcn σ c ∧ zad σ' c 0 = zad σ c 0 ∧ zln σ' c = zln σ c ∧ ∀ k, zgi σ' c 0 k = zgi σ c 0 k) (h2 : ∀ q, q < z → H'[q]? = H[q]?) : zRo z σ' H' := fun c g1 g2 => by
  obtain ⟨a1, a2, cell, a3, a4, a5, a6⟩ := h c g1 g2
  obtain ⟨b1, b2, b3, b4⟩ := h1 c g1 g2
  refine ⟨by rw [b1]; exact a1, by rw [b2]; exact a2, cell, by rw [b2, h2 _ a2]; exact a3, a4, by rw [b3]; exact a5, fun k hk => ?_⟩
  rw [b4]
  exact a6 k (by rw [← b3]; exact hk)
theorem zk5 {c : Nat} (h0 : 0 < c) (h : zkd c ≠ 0) : 5 < c := by
  rcases Nat.lt_or_ge 5 c with q | q
  · exact q
  · exfalso
    apply h
    rcases (show c = 1 ∨ c = 2 ∨ c = 3 ∨ c = 4 ∨ c = 5 by omega) with rfl | rfl | rfl | rfl | rfl <;> rfl
/-- the heap holds the abstract state -/
def zRP (ph : Bool) (D : va_G) (acl : Nat → ClassId) (z : Nat) (σ : zSt) (H : Heap) : Prop :=
  H.size = ztp σ ∧ (z ≤ ztp σ ∧ zRo z σ H) ∧ (∀ c j, 5 < c → j < zcn σ c → va_at D vwCl (zad σ c j, zen acl σ c j) H) ∧
  (∀ c j c' j', 5 < c → 5 < c' → j < zcn σ c → j' < zcn σ c' → zad σ c j = zad σ c' j' → c = c' ∧ j = j') ∧
  (∀ c j, 5 < c → j < zcn σ c → z ≤ zad σ c j) ∧ (∀ c j k, 0 < c → j < zcn σ c → zok σ (.inr (.inr (zgr σ c j k)))) ∧ (ph = true → zK σ)
/-- a later state: what was made stands where it stood -/
def zX (σ σ' : zSt) : Prop := (∀ c j, j < zcn σ c → j < zcn σ' c ∧ zad σ' c j = zad σ c j) ∧ zsc σ' = zsc σ
theorem zX.rf {σ : zSt} : zX σ σ := ⟨fun _ _ h => ⟨h, rfl⟩, rfl⟩
theorem zX.tr {a b c : zSt} (h1 : zX a b) (h2 : zX b c) : zX a c := ⟨fun x j h => ⟨(h2.1 x j (h1.1 x j h).1).1, by rw [(h2.1 x j (h1.1 x j h).1).2, (h1.1 x j h).2]⟩, h2.2.trans h1.2⟩
theorem zok.mono {σ σ' : zSt} (h : zX σ σ') {v : zV} (hv : zok σ v) : zok σ' v := by
  rcases v with x | x | r
  · trivial
  · trivial
  · rcases hv with hv | hv
    · exact Or.inl hv
    · exact Or.inr (h.1 _ _ hv).1
theorem zc.mono {σ σ' : zSt} (h : zX σ σ') {v : zV} (hv : zok σ v) : zc σ' v = zc σ v := by
  rcases v with x | x | r
  · rfl
  · rfl
  · rcases hv with hv | hv
    · simp [zc, zrv, hv]
    · simp [zc, zrv, (h.1 _ _ hv).2]
theorem zc_cat (σ : zSt) (v : zV) : (zc σ v).category = zcat v := by
  rcases v with x | x | r
  · rfl
  · rfl
  · simp only [zc, zcat, zrv]
    split <;> rfl
/-- the locals -/
def zLR (σ : zSt) (L : List (Option zV)) (ls : Array Slot) (nL : Nat) : Prop := ls.size = nL ∧ lv_wf ls ∧ ∀ (i : Nat) (v : zV), L[i]? = some (some v) → ls[i]? = some (.val (zc σ v)) ∧ zok σ v
theorem zLR.mono {σ σ' : zSt} {L : List (Option zV)} {ls : Array Slot} {nL : Nat} (h : zX σ σ') (hL : zLR σ L ls nL) : zLR σ' L ls nL :=
  ⟨hL.1, hL.2.1, fun i v hv => ⟨by rw [zc.mono h (hL.2.2 i v hv).2]; exact (hL.2.2 i v hv).1, (hL.2.2 i v hv).2.mono h⟩⟩
def zkill (L : List (Option zV)) (i : Nat) : List (Option zV) := match i with
  | 0 => L
  | i' + 1 => match L[i']? with
    | some (some (.inr (.inl _))) => L.set i' none
    | _ => L
/-- the locals behind a store -/
def zst (L : List (Option zV)) (i : Nat) (v : zV) : List (Option zV) := match v with
  | .inr (.inl _) => ((zkill L i).set i (some v)).set (i + 1) none
  | _ => (zkill L i).set i (some v)
def zLl (σ : zSt) (L : List (Option zV)) : List (Nat × Value) := (List.range L.length).filterMap (fun j => match L[j]? with | some (some v) => some (j, zc σ v) | _ => none)
theorem zLl_mem {σ : zSt} {L : List (Option zV)} {i : Nat} {v : zV} (h : L[i]? = some (some v)) : (i, zc σ v) ∈ zLl σ L := by
  unfold zLl
  rw [List.mem_filterMap]
  exact ⟨i, List.mem_range.mpr (List.getElem?_eq_some_iff.mp h).1, by rw [h]⟩
theorem zLR.has {σ : zSt} {L : List (Option zV)} {ls : Array Slot} {nL : Nat} (h : zLR σ L ls nL) : lv_has ls nL (zLl σ L) := by
  refine ⟨h.1, h.2.1, fun q hq => ?_⟩
  obtain ⟨j, -, hj⟩ := List.mem_filterMap.mp hq
  split at hj
  · next v hv => cases hj; exact (h.2.2 j v hv).1
  · cases hj
theorem zkill_get {L : List (Option zV)} {i k : Nat} {v : zV} (h : (zkill L i)[k]? = some (some v)) : L[k]? = some (some v) ∧ ¬ (k + 1 = i ∧ zcat v = 2) := by
  unfold zkill at h
  split at h
  · exact ⟨h, fun e => by omega⟩
  · next i' =>
    split at h
    · next y hy =>
      by_cases hk : k = i'
      · subst hk
        rw [List.getElem?_set_self (by exact (List.getElem?_eq_some_iff.mp hy).1)] at h
        cases h
      · rw [List.getElem?_set_ne (by omega)] at h
        exact ⟨h, fun e => by omega⟩
    · next hn =>
      refine ⟨h, fun e => ?_⟩
      obtain ⟨e1, e2⟩ := e
      have : k = i' := by omega
      subst this
      rcases v with x | x | r
      · cases e2
      · exact hn x h
      · cases e2
theorem zLR.st1 {σ : zSt} {L : List (Option zV)} {ls : Array Slot} {nL i : Nat} {v : zV} (h : zLR σ L ls nL) (hi : i < nL) (hc : zcat v = 1) (hv : zok σ v) :
    ∃ ls', storeLocals ls i (zc σ v) = some ls' ∧ zLR σ (zst L i v) ls' nL := by
  obtain ⟨ls', e, h'⟩ := lv_store1 (v := zc σ v) h.has hi (by rw [zc_cat]; exact hc)
  refine ⟨ls', e, h'.1, h'.2.1, fun k w hw => ?_⟩
  have hz : zst L i v = (zkill L i).set i (some v) := by
    rcases v with x | x | r
    · rfl
    · cases hc
    · rfl
  rw [hz] at hw
  by_cases hk : k = i
  · subst hk
    have := (List.getElem?_eq_some_iff.mp hw).1
    rw [List.getElem?_set_self (by simpa using this)] at hw
    cases hw
    exact ⟨h'.2.2 _ List.mem_cons_self, hv⟩
  · rw [List.getElem?_set_ne (by omega)] at hw
    obtain ⟨h1, h2⟩ := zkill_get hw
    refine ⟨h'.2.2 (k, zc σ w) (List.mem_cons_of_mem _ (List.mem_filter.mpr ⟨zLl_mem h1, ?_⟩)), (h.2.2 k w h1).2⟩
    simp only [zc_cat]
    simp
    exact ⟨hk, Decidable.not_and_iff_or_not.mp h2⟩
theorem zLR.st2 {σ : zSt} {L : List (Option zV)} {ls : Array Slot} {nL i : Nat} {y : Int64} (h : zLR σ L ls nL) (hi : i + 1 < nL) :
    ∃ ls', storeLocals ls i (.long y) = some ls' ∧ zLR σ (zst L i (.inr (.inl y))) ls' nL := by
  obtain ⟨ls', e, h'⟩ := lv_store2 (v := .long y) h.has hi rfl
  refine ⟨ls', e, h'.1, h'.2.1, fun k w hw => ?_⟩
  have hz : zst L i (.inr (.inl y)) = ((zkill L i).set i (some (.inr (.inl y)))).set (i + 1) none := rfl
  rw [hz] at hw
  by_cases hk1 : k = i + 1
  · subst hk1
    have := (List.getElem?_eq_some_iff.mp hw).1
    rw [List.getElem?_set_self (by simpa using this)] at hw
    cases hw
  rw [List.getElem?_set_ne (by omega)] at hw
  by_cases hk : k = i
  · subst hk
    have := (List.getElem?_eq_some_iff.mp hw).1
    rw [List.getElem?_set_self (by simpa using this)] at hw
    cases hw
    exact ⟨h'.2.2 _ List.mem_cons_self, trivial⟩
  · rw [List.getElem?_set_ne (by omega)] at hw
    obtain ⟨h1, h2⟩ := zkill_get hw
    refine ⟨h'.2.2 (k, zc σ w) (List.mem_cons_of_mem _ (List.mem_filter.mpr ⟨zLl_mem h1, ?_⟩)), (h.2.2 k w h1).2⟩
    simp only [zc_cat]
    simp
    exact ⟨hk, hk1, Decidable.not_and_iff_or_not.mp h2⟩
abbrev zMth : Type := MethodName × ByteArray × Nat × Option FieldType
/-- a row of rows can be made -/
def zAOA (t : FieldType) (U : State) : Prop := (Cond.arrayOver (.array t)).before #[] U = true
theorem zAOA.use {t : FieldType} {A : Array Value} {U : State} (h : zAOA t U) : (Cond.arrayOver (.array t)).before A U = true := h
theorem zAOA.moved {t : FieldType} {u U : State} (hvm : u.vm.Alike U.vm) (h : zAOA t u) : zAOA t U := over_moved (a := #[]) (a' := #[]) hvm h
/-- words of the tables that are carried by themselves: links to a nest mate's private methods, rows of references that can be made -/
def zN (U : State) : Prop := (∀ (a : String) (i : Nat) (x : MethodName) (h : String), Cond.methodLinkNest a i x h ∈ lw_tbl → va_Nw (.methodLinkNest a i x h) U) ∧ (∀ C : String, Cond.arrayOver (.object C) ∈ lw_tbl → va_AO C U) ∧ ∀ ty : FieldType, Cond.arrayOver (.array ty) ∈ lw_tbl → zAOA ty U
theorem zN.warm {s U : State} (hW : s.WarmedH U.vm) (h : zN s) : zN U := ⟨fun a i x b hm => va_Nw.warmM hW (h.1 a i x b hm), fun C hm => va_AO.moved hW.alike (h.2.1 C hm), fun ty hm => zAOA.moved hW.alike (h.2.2 ty hm)⟩
theorem zN.calling {U : State} {g : JFrame} {mk : MethodId} {a : Array Value} (h : zN U) : zN (U.calling g mk a) := ⟨fun b i x c hm => va_Nw.same (u := U) (U := U.calling g mk a) rfl rfl (h.1 b i x c hm), fun C hm => va_AO.moved (u := U) (U := U.calling g mk a) (Vm.Alike.refl U.vm) (h.2.1 C hm), fun ty hm => zAOA.moved (u := U) (U := U.calling g mk a) (Vm.Alike.refl U.vm) (h.2.2 ty hm)⟩
def zcx (D : va_G) (acl : Nat → ClassId) (z : Nat) (M : zMth) (p : Program) (s : State) (m : MethodId) (args : Array Value) (meth : Method) (c : Code) : Prop :=
  p.tables.exec = Jvm.exec ∧ c.code = M.2.1 ∧ c.maxLocals = M.2.2.1 ∧ s.vm.findClass M.1.cls = some m.cls ∧ (∀ w ∈ zT, w.before args s = true) ∧ va_K D vwCl (zts acl) s ∧ z ≤ s.heap.size ∧ (M.1.name = "<init>" → meth.name = "<init>") ∧ zN s
def zSZ (z : Nat) (σ : zSt) (U : State) : Prop := (va_Z "HeardPlaces$Flips" "XX" "[I" (.ref (zad σ 2 0)) (zA z) U U.heap ∧ va_Z "HeardPlaces$Flips" "XY" "[I" (.ref (zad σ 3 0)) (zA z) U U.heap ∧ va_Z "HeardPlaces$Flips" "YX" "[I" (.ref (zad σ 4 0)) (zA z) U U.heap ∧ va_Z "HeardPlaces$Flips" "YY" "[I" (.ref (zad σ 5 0)) (zA z) U U.heap) ∧ (∀ c, c < 6 → 0 < zcn σ c) ∧ ∀ c, 0 < c → c < 6 → ∃ cell : Cell, U.heap[zad σ c 0]? = some cell ∧ U.isArrayOf cell .int ∧ zad σ c 0 < z
/-- how a value may be returned -/
def zrok (M : zMth) (pc : Nat) (r : Option zV) : Prop := match r with
  | none => decode M.2.1 pc = .ok (.return_, 1) ∧ M.2.2.2 = none
  | some (.inl x) => decode M.2.1 pc = .ok (.ireturn, 1) ∧ ∃ ty, M.2.2.2 = some ty ∧ narrow ty (.int x) = .int x
  | some (.inr (.inl _)) => decode M.2.1 pc = .ok (.lreturn, 1) ∧ M.2.2.2 = some .long
  | some (.inr (.inr _)) => decode M.2.1 pc = .ok (.areturn, 1) ∧ ∃ rt, M.2.2.2 = some rt ∧ ((∃ n, rt = .object n) ∨ ∃ t, rt = .array t)
/-- the judgement: a frame comes to its end with Q; d: calls below it, kc, ks: cells and slots that it may make -/
def zE (ph : Bool) (d kc ks : Nat) (M : zMth) (pc : Nat) (L : List (Option zV)) (S : List zV) (σ : zSt) (Q : Option zV → zSt → Prop) : Prop :=
  ∀ (D : va_G) (acl : Nat → ClassId) (z : Nat) (p : Program) (l : Launch) (e : Env) (R : Room) (s : State) (m : MethodId) (args : Array Value) (below : List Frame) (meth : Method) (c : Code) (H : Heap) (locs : List Loc) (cells slots : Nat) (σe : zSt) (ls : Array Slot) (Zp : State → Prop) (mc ms : Nat),
    zcx D acl z M p s m args meth c → d ≤ R.frames → 60 * d + 12 ≤ R.locals → mc ≤ R.cells → ms ≤ R.slots → cells + kc ≤ mc → slots + ks ≤ ms →
    zRP ph D acl z σ H → zSZ z σe s → va_S (zA z) s.heap H locs → zX σe σ → zLR σ L ls M.2.2.1 → (∀ v ∈ S, zok σ v) →
    (∀ (r : Option zV) (σ' : zSt) (H' : Heap) (locs' : List Loc) (pc' : Nat) (ls' : Array Slot), Q r σ' → zRP ph D acl z σ' H' → va_S (zA z) s.heap H' locs' → zX σe σ' → (∀ v ∈ r, zok σ' v) → zrok M pc' r → W p l e R s m args below meth c H' locs' mc ms Zp (F0 m pc' ls' (r.map (zc σ')).toList)) →
    W p l e R s m args below meth c H locs cells slots Zp (F0 m pc ls (S.map (zc σ)))
section zRules
variable {ph : Bool} {d kc ks : Nat} {M : zMth} {pc : Nat} {L : List (Option zV)} {S : List zV} {σ : zSt} {Q : Option zV → zSt → Prop}
/-- a step that changes neither heap nor locals -/
theorem zE.pure {S1 S2 : List zV} {pc2 : Nat} (hs : (∀ v ∈ S1, zok σ v) → ∀ v ∈ S2, zok σ v)
    (h : ∀ (p : Program) (l : Launch) (e : Env) (R : Room) (s : State) (m : MethodId) (args : Array Value) (below : List Frame) (meth : Method) (c : Code) (H : Heap) (locs : List Loc) (cells slots : Nat) (ls : Array Slot) (Zp : State → Prop),
      p.tables.exec = Jvm.exec → c.code = M.2.1 → s.vm.findClass M.1.cls = some m.cls → (∀ w ∈ zT, w.before args s = true) → zLR σ L ls M.2.2.1 → (∀ v ∈ S1, zok σ v) →
      W p l e R s m args below meth c H locs cells slots Zp (F0 m pc2 ls (S2.map (zc σ))) → W p l e R s m args below meth c H locs cells slots Zp (F0 m pc ls (S1.map (zc σ))))
    (k : zE ph d kc ks M pc2 L S2 σ Q) : zE ph d kc ks M pc L S1 σ Q := by
  intro D acl z p l e R s m args below meth c H locs cells slots σe ls Zp mc ms hc h1 h2 h3 h4 h5 h6 hR hZ hS hX hL hV hQ
  exact h p l e R s m args below meth c H locs cells slots ls Zp hc.1 hc.2.1 hc.2.2.2.1 hc.2.2.2.2.1 hL hV (k D acl z p l e R s m args below meth c H locs cells slots σe ls Zp mc ms hc h1 h2 h3 h4 h5 h6 hR hZ hS hX hL (hs hV) hQ)
end zRules
