/-! flips of the map (reference): parts, hinges, turnings -/
def tnU (k : Nat) (x y : Int) : Int := if k = 0 ∨ k = 5 then x else if k = 1 ∨ k = 7 then -y else if k = 2 ∨ k = 4 then -x else y
def tnV (k : Nat) (x y : Int) : Int := if k = 0 ∨ k = 4 then y else if k = 1 ∨ k = 6 then x else if k = 2 ∨ k = 5 then -y else -x
/-- a cell turned about another: -9 out of the field -/
def tnC (A : zAb) (k o c : Nat) : Int :=
  let u := tnU k (((c % 8 : Nat) : Int) - ((o % 8 : Nat) : Int)) (((c / 8 : Nat) : Int) - ((o / 8 : Nat) : Int))
  let v := tnV k (((c % 8 : Nat) : Int) - ((o % 8 : Nat) : Int)) (((c / 8 : Nat) : Int) - ((o / 8 : Nat) : Int))
  if (0 ≤ ((o % 8 : Nat) : Int) + u ∧ ((o % 8 : Nat) : Int) + u < aW A) ∧ 0 ≤ ((o / 8 : Nat) : Int) + v ∧ ((o / 8 : Nat) : Int) + v < aH A then 8 * (((o / 8 : Nat) : Int) + v) + ((o % 8 : Nat) : Int) + u else -9
theorem tnU_r {k : Nat} {x y : Int} (hx : -7 ≤ x ∧ x ≤ 7) (hy : -7 ≤ y ∧ y ≤ 7) : -7 ≤ tnU k x y ∧ tnU k x y ≤ 7 := by
  unfold tnU
  split
  · exact hx
  · split
    · omega
    · split <;> omega
theorem tnV_r {k : Nat} {x y : Int} (hx : -7 ≤ x ∧ x ≤ 7) (hy : -7 ≤ y ∧ y ≤ 7) : -7 ≤ tnV k x y ∧ tnV k x y ≤ 7 := by
  unfold tnV
  split
  · exact hy
  · split
    · exact hx
    · split <;> omega
theorem tnC_r {A : zAb} (hW : zWf A) (k o c : Nat) : tnC A k o c = -9 ∨ ∃ x : Nat, tnC A k o c = (x : Int) ∧ x < 64 ∧ acell A x = true := by
  have w := hW.1
  unfold tnC
  simp only
  split
  · next h =>
    refine Or.inr ?_
    generalize tnU k (((c % 8 : Nat) : Int) - ((o % 8 : Nat) : Int)) (((c / 8 : Nat) : Int) - ((o / 8 : Nat) : Int)) = u at h ⊢
    generalize tnV k (((c % 8 : Nat) : Int) - ((o % 8 : Nat) : Int)) (((c / 8 : Nat) : Int) - ((o / 8 : Nat) : Int)) = v at h ⊢
    obtain ⟨⟨h1, h2⟩, h3, h4⟩ := h
    obtain ⟨X, hX⟩ : ∃ X : Nat, ((o % 8 : Nat) : Int) + u = (X : Int) := ⟨(((o % 8 : Nat) : Int) + u).toNat, by omega⟩
    obtain ⟨Y, hY⟩ : ∃ Y : Nat, ((o / 8 : Nat) : Int) + v = (Y : Int) := ⟨(((o / 8 : Nat) : Int) + v).toNat, by omega⟩
    refine ⟨8 * Y + X, by omega, by omega, ?_⟩
    simp only [acell, Bool.and_eq_true, decide_eq_true_eq]
    omega
  · exact Or.inl rfl
/-- a thing turned, the cell where it is then -/
def tnT (A : zAb) (j k t : Nat) : Int := tnC A k (aMp A j).toNat (aMp A t).toNat
def cTh (A : zAb) (p : Nat → Bool) (j k t : Nat) : Int := if p t = true then tnT A j k t else aMp A t
/-- whether a part is hinged at its joints -/
def hgO (A : zAb) (p : Nat → Bool) (m : Nat) : Nat := if p (mA A m) = true then mB A m else mA A m
def hgD (A : zAb) (p : Nat → Bool) (m : Nat) : Bool := mO A m && (p (mA A m) != p (mB A m))
def hgB (A : zAb) (p : Nat → Bool) (j : Nat) (b : Int) : Bool := !aAny (fun m => hgD A p m && !(decide (hgO A p m = j) || decide ((hgO A p m : Int) = b))) (aM A) && aAny (fun m => hgD A p m && decide (hgO A p m = j)) (aM A) && (decide (b < 0) || aAny (fun m => hgD A p m && decide ((hgO A p m : Int) = b)) (aM A))
/-- what a turning asks -/
def mv1 (A : zAb) (j : Nat) (b : Int) (k : Nat) : Bool := decide (b < 0) || decide (tnT A j k b.toNat = aMp A b.toNat)
def mv2 (A : zAb) (p : Nat → Bool) (j k : Nat) (t : Nat) : Bool := p t && !(decide (0 ≤ tnT A j k t) && atold A t (tnT A j k t).toNat)
def mv3 (A : zAb) (p : Nat → Bool) (j k : Nat) (m : Nat) : Bool := mO A m && (p (mA A m) || p (mB A m)) && !kept A m (cTh A p j k (mA A m)).toNat (cTh A p j k (mB A m)).toNat
def mv4 (A : zAb) (p : Nat → Bool) (j k : Nat) (t u : Nat) : Bool := !decide (u = t) && p t && decide (cTh A p j k u = tnT A j k t)
def mvC (A : zAb) (p : Nat → Bool) (j k : Nat) (n : Nat) : Nat := fb_ct (fun t => p t && !decide (tnT A j k t = aMp A t)) n
def mvN (A : zAb) (p : Nat → Bool) (j : Nat) (b : Int) (k : Nat) : Nat := if mv1 A j b k = true ∧ aAny (mv2 A p j k) (aN A) = false ∧ aAny (mv3 A p j k) (aM A) = false ∧ (aAl A = true → aAny (fun t => aAny (mv4 A p j k t) (aN A)) (aN A) = false) then mvC A p j k (aN A) else 0
/-- the things of a set that are come to from one of them -/
noncomputable def ptB (A : zAb) (w : Nat → Bool) (t u : Nat) : Bool := @decide (zCls (lkP A (fun x => w x = true)) t u) (Classical.propDecidable _)
theorem ptB_iff {A : zAb} {w : Nat → Bool} {t u : Nat} : ptB A w t u = true ↔ zCls (lkP A (fun x => w x = true)) t u := by
  unfold ptB
  exact @decide_eq_true_iff _ (Classical.propDecidable _)
/-- a group without its joints -/
noncomputable def rsB (A : zAb) (t : Nat) (j : Nat) (b : Int) (u : Nat) : Bool := grB A t u && !decide (u = j) && !decide ((u : Int) = b)
section zMx
variable {d kc ks : Nat} {σ : zSt} {A : zAb} {Q : Option zV → zSt → Prop}
theorem iI_neg (a : Int) : -iI a = iI (-a) := by unfold iI; rw [Int32.ofInt_neg]
/-- the flip at hand: the group's first thing t, the joints j and b, the part p, the turning k -/
def zFj (A : zAb) (σ : zSt) (j : Nat) (b : Int) : Prop := zgi σ 54 0 54 = nI j ∧ zgi σ 54 0 55 = iI b ∧ j < aN A ∧ 0 ≤ aMp A j ∧ -1 ≤ b ∧ b < aN A ∧ (0 ≤ b → 0 ≤ aMp A b.toNat)
theorem zFj.only {σ' : zSt} {j : Nat} {b : Int} {M : Nat → Nat → Nat → Prop} (h : zFj A σ j b) (ho : zOnly M σ σ') (hm : ¬ M 54 0 54 ∧ ¬ M 54 0 55) : zFj A σ' j b := by
  unfold zFj
  rw [ho.i 54 0 54 hm.1, ho.i 54 0 55 hm.2]
  exact h
theorem S_X12_turnedCell {K : Int32 → zSt → Prop} (hW : zWf A) (hR : zRM A σ) {j k c : Nat} {b : Int} (hF : zFj A σ j b) (h57 : zgi σ 54 0 57 = nI k) (hk : k < 8) (hc : c < 64) (hK : K (iI (tnC A k (aMp A j).toNat c)) σ) : zCi true (d + 2) 0 0 M_X12_turnedCell [.inr (.inr (54, 0)), .inl (nI c)] σ K := by
  have hN : aN A ≤ 24 := hW.1.2.2.2.2.1
  have w := hW.1
  obtain ⟨f1, f2, f3, f4, -⟩ := hF
  obtain ⟨e1, e2⟩ := vMp hW hR f3 f4
  have ck : ∀ n : Nat, n < 8 → (nI k = nI n ↔ k = n) := fun n hn => nI_eq (by omega) (by omega)
  have c0 : (nI k = 0) ↔ k = 0 := ck 0 (by omega)
  have c1 : (nI k = 1) ↔ k = 1 := ck 1 (by omega)
  have c2 : (nI k = 2) ↔ k = 2 := ck 2 (by omega)
  have c4 : (nI k = 4) ↔ k = 4 := ck 4 (by omega)
  have c5 : (nI k = 5) ↔ k = 5 := ck 5 (by omega)
  have c6 : (nI k = 6) ↔ k = 6 := ck 6 (by omega)
  have c7 : (nI k = 7) ↔ k = 7 := ck 7 (by omega)
  have i24 : vp_in (nI j) 24 := nI_in (by omega) (by omega)
  generalize hO : (aMp A j).toNat = o at e1 e2 hK
  have dx : nI (c % 8) - nI (o % 8) = iI (((c % 8 : Nat) : Int) - ((o % 8 : Nat) : Int)) := by rw [← iI_nat, ← iI_nat, iI_sub]
  have dy : nI (c / 8) - nI (o / 8) = iI (((c / 8 : Nat) : Int) - ((o / 8 : Nat) : Int)) := by rw [← iI_nat, ← iI_nat, iI_sub]
  have rx : -7 ≤ ((c % 8 : Nat) : Int) - ((o % 8 : Nat) : Int) ∧ ((c % 8 : Nat) : Int) - ((o % 8 : Nat) : Int) ≤ 7 := by omega
  have ry : -7 ≤ ((c / 8 : Nat) : Int) - ((o / 8 : Nat) : Int) ∧ ((c / 8 : Nat) : Int) - ((o / 8 : Nat) : Int) ≤ 7 := by omega
  have rU := tnU_r (k := k) rx ry
  have rV := tnV_r (k := k) rx ry
  unfold tnC at hK
  simp only at hK
  have eU : tnU k (((c % 8 : Nat) : Int) - ((o % 8 : Nat) : Int)) (((c / 8 : Nat) : Int) - ((o / 8 : Nat) : Int)) = if k = 0 ∨ k = 5 then (((c % 8 : Nat) : Int) - ((o % 8 : Nat) : Int)) else if k = 1 ∨ k = 7 then -(((c / 8 : Nat) : Int) - ((o / 8 : Nat) : Int)) else if k = 2 ∨ k = 4 then -(((c % 8 : Nat) : Int) - ((o % 8 : Nat) : Int)) else (((c / 8 : Nat) : Int) - ((o / 8 : Nat) : Int)) := rfl
  have eV : tnV k (((c % 8 : Nat) : Int) - ((o % 8 : Nat) : Int)) (((c / 8 : Nat) : Int) - ((o / 8 : Nat) : Int)) = if k = 0 ∨ k = 4 then (((c / 8 : Nat) : Int) - ((o / 8 : Nat) : Int)) else if k = 1 ∨ k = 6 then (((c % 8 : Nat) : Int) - ((o % 8 : Nat) : Int)) else if k = 2 ∨ k = 5 then -(((c / 8 : Nat) : Int) - ((o / 8 : Nat) : Int)) else -(((c % 8 : Nat) : Int) - ((o % 8 : Nat) : Int)) := rfl
  generalize (((c % 8 : Nat) : Int) - ((o % 8 : Nat) : Int)) = X at dx rx hK eU eV rU rV
  generalize (((c / 8 : Nat) : Int) - ((o / 8 : Nat) : Int)) = Y at dy ry hK eU eV rU rV
  generalize tnU k X Y = u at hK eU rU
  generalize tnV k X Y = v at hK eV rV
  have g160 : zE true (d + 2) 0 0 M_X12_turnedCell 160 [some (.inr (.inr (54, 0))), none, some (.inl (nI (o % 8))), some (.inl (nI (o / 8))), none, none, none, some (.inl (iI u)), none] [.inl (iI v)] σ (fun r σ' => ∃ x, r = some (.inl x) ∧ K x σ') := by
    have s1 : nI (o % 8) + iI u = iI (((o % 8 : Nat) : Int) + u) := by rw [← iI_nat, iI_add]
    have s2 : nI (o / 8) + iI v = iI (((o / 8 : Nat) : Int) + v) := by rw [← iI_nat, iI_add]
    have z1 := zin_n (iI (((o % 8 : Nat) : Int) + u)) (N := aW A) (by omega)
    have z2 := zin_n (iI (((o / 8 : Nat) : Int) + v)) (N := aH A) (by omega)
    rw [iI_toInt (by omega) (by omega)] at z1 z2
    refine T_X12_turnedCell_160 ?_
    rw [s1, s2, hR.1.1, hR.1.2.1, zb_0, zb_0, z1, z2]
    refine ⟨fun g => ⟨_, rfl, ?_⟩, fun g => ⟨_, rfl, ?_⟩⟩
    · rw [if_neg (fun q => g.elim (fun z => z q.1) (fun z => z q.2))] at hK
      exact hK
    · rw [if_pos (by
        refine ⟨Decidable.not_not.mp (fun z => g (Or.inl z)), Decidable.not_not.mp (fun z => g (Or.inr z))⟩)] at hK
      have e : (8 : Int32) * iI (((o / 8 : Nat) : Int) + v) + nI (o % 8) + iI u = iI (8 * (((o / 8 : Nat) : Int) + v) + ((o % 8 : Nat) : Int) + u) := by
        rw [show (8 : Int32) = iI 8 from rfl, iI_mul, ← iI_nat, iI_add, iI_add]
      rw [e]
      exact hK
  have g103 : zE true (d + 2) 0 0 M_X12_turnedCell 103 [some (.inr (.inr (54, 0))), none, some (.inl (nI (o % 8))), some (.inl (nI (o / 8))), some (.inl (iI X)), some (.inl (iI Y)), some (.inl (nI k)), none, none] [.inl (iI u)] σ (fun r σ' => ∃ x, r = some (.inl x) ∧ K x σ') := by
    refine T_X12_turnedCell_103 ?_
    rw [c0, c1, c2, c4, c5, c6]
    refine ⟨fun g => T_X12_turnedCell_116 ?_, fun g0 => ⟨fun g4 => ⟨fun g => T_X12_turnedCell_134 ?_, fun g1 => ⟨fun g6 => ⟨fun g => T_X12_turnedCell_151 ?_, fun g => ?_⟩, fun g => T_X12_turnedCell_134 ?_⟩⟩, fun g => T_X12_turnedCell_116 ?_⟩⟩
    · rw [if_pos (Or.inl g)] at eV
      rw [eV] at g160; exact g160
    · rw [if_neg (fun q => q.elim g0 g4), if_pos (Or.inl g)] at eV
      rw [eV] at g160; exact g160
    · rw [if_neg (fun q => q.elim g0 g4), if_neg (fun q => q.elim g1 g6), if_pos g] at eV
      rw [eV, ← iI_neg] at g160; exact g160
    · rw [if_neg (fun q => q.elim g0 g4), if_neg (fun q => q.elim g1 g6), if_neg g] at eV
      rw [eV, ← iI_neg] at g160; exact g160
    · rw [if_neg (fun q => q.elim g0 g4), if_pos (Or.inr g)] at eV
      rw [eV] at g160; exact g160
    · rw [if_pos (Or.inr g)] at eV
      rw [eV] at g160; exact g160
  refine zC_intro pl_X12 (Nat.le_of_ble_eq_true rfl) (T_X12_turnedCell_0 ?_)
  rw [f1, nI_clamp (show j < 2 ^ 31 by omega), e1, h57, nI_mod8 c hc, nI_div8 c hc, nI_mod8 o e2, nI_div8 o e2, dx, dy, c0, c1, c2, c4, c5, c7]
  refine ⟨i24, i24, fun g => T_X12_turnedCell_59 ?_, fun g0 => ⟨fun g5 => ⟨fun g => T_X12_turnedCell_77 ?_, fun g1 => ⟨fun g7 => ⟨fun g => T_X12_turnedCell_95 ?_, fun g => ?_⟩, fun g => T_X12_turnedCell_77 ?_⟩⟩, fun g => T_X12_turnedCell_59 ?_⟩⟩
  · rw [if_pos (Or.inl g)] at eU
    rw [eU] at g103; exact g103
  · rw [if_neg (fun q => q.elim g0 g5), if_pos (Or.inl g)] at eU
    rw [eU, ← iI_neg] at g103; exact g103
  · rw [if_neg (fun q => q.elim g0 g5), if_neg (fun q => q.elim g1 g7), if_pos g] at eU
    rw [eU, ← iI_neg] at g103; exact g103
  · rw [if_neg (fun q => q.elim g0 g5), if_neg (fun q => q.elim g1 g7), if_neg g] at eU
    rw [eU] at g103; exact g103
  · rw [if_neg (fun q => q.elim g0 g5), if_pos (Or.inr g)] at eU
    rw [eU, ← iI_neg] at g103; exact g103
  · rw [if_pos (Or.inr g)] at eU
    rw [eU] at g103; exact g103
end zMx
