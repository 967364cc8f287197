/-! flips (class): a cell turned, what a part hangs on -/
def tXX : Nat → Int
  | 0 => 1 | 2 => -1 | 4 => -1 | 5 => 1 | _ => 0
def tXY : Nat → Int
  | 1 => -1 | 3 => 1 | 6 => 1 | 7 => -1 | _ => 0
def tYX : Nat → Int
  | 1 => 1 | 3 => -1 | 6 => 1 | 7 => -1 | _ => 0
def tYY : Nat → Int
  | 0 => 1 | 2 => -1 | 4 => 1 | 5 => -1 | _ => 0
theorem tnU_m (x y : Int) : ∀ k, k < 8 → tXX k * x + tXY k * y = tnU k x y
  | 0, _ => by simp [tXX, tXY, tnU]
  | 1, _ => by simp [tXX, tXY, tnU]
  | 2, _ => by simp [tXX, tXY, tnU]
  | 3, _ => by simp [tXX, tXY, tnU]
  | 4, _ => by simp [tXX, tXY, tnU]
  | 5, _ => by simp [tXX, tXY, tnU]
  | 6, _ => by simp [tXX, tXY, tnU]
  | 7, _ => by simp [tXX, tXY, tnU]
theorem tnV_m (x y : Int) : ∀ k, k < 8 → tYX k * x + tYY k * y = tnV k x y
  | 0, _ => by simp [tYX, tYY, tnV]
  | 1, _ => by simp [tYX, tYY, tnV]
  | 2, _ => by simp [tYX, tYY, tnV]
  | 3, _ => by simp [tYX, tYY, tnV]
  | 4, _ => by simp [tYX, tYY, tnV]
  | 5, _ => by simp [tYX, tYY, tnV]
  | 6, _ => by simp [tYX, tYY, tnV]
  | 7, _ => by simp [tYX, tYY, tnV]
/-- a cell turned about another, in eight by eight: -9 out of them -/
def tnD (k o c : Nat) : Int :=
  let u := tnU k (((c % 8 : Nat) : Int) - ((o % 8 : Nat) : Int)) (((c / 8 : Nat) : Int) - ((o / 8 : Nat) : Int))
  let v := tnV k (((c % 8 : Nat) : Int) - ((o % 8 : Nat) : Int)) (((c / 8 : Nat) : Int) - ((o / 8 : Nat) : Int))
  if (0 ≤ ((o % 8 : Nat) : Int) + u ∧ ((o % 8 : Nat) : Int) + u ≤ 7) ∧ 0 ≤ ((o / 8 : Nat) : Int) + v ∧ ((o / 8 : Nat) : Int) + v ≤ 7 then 8 * (((o / 8 : Nat) : Int) + v) + (((o % 8 : Nat) : Int) + u) else -9
theorem tnD_r (k o c : Nat) : tnD k o c = -9 ∨ ∃ x : Nat, tnD k o c = (x : Int) ∧ x < 64 := by
  unfold tnD
  simp only
  split
  · next h =>
    generalize tnU k (((c % 8 : Nat) : Int) - ((o % 8 : Nat) : Int)) (((c / 8 : Nat) : Int) - ((o / 8 : Nat) : Int)) = u at h ⊢
    generalize tnV k (((c % 8 : Nat) : Int) - ((o % 8 : Nat) : Int)) (((c / 8 : Nat) : Int) - ((o / 8 : Nat) : Int)) = v at h ⊢
    exact Or.inr ⟨(8 * (((o / 8 : Nat) : Int) + v) + (((o % 8 : Nat) : Int) + u)).toNat, by omega, by omega⟩
  · exact Or.inl rfl
/-- the same within the field -/
theorem tnD_C {A : zAb} (hW : zWf A) {k o c e : Nat} (he : acell A e = true) : tnD k o c = (e : Int) ↔ tnC A k o c = (e : Int) := by
  have w := hW.1
  have he64 := acell_64 he
  unfold acell at he
  simp only [Bool.and_eq_true, decide_eq_true_eq] at he
  unfold tnD tnC
  simp only
  generalize tnU k (((c % 8 : Nat) : Int) - ((o % 8 : Nat) : Int)) (((c / 8 : Nat) : Int) - ((o / 8 : Nat) : Int)) = u
  generalize tnV k (((c % 8 : Nat) : Int) - ((o % 8 : Nat) : Int)) (((c / 8 : Nat) : Int) - ((o / 8 : Nat) : Int)) = v
  split
  · split
    · omega
    · next h1 h2 =>
      constructor
      · intro q
        exfalso
        apply h2
        omega
      · intro q
        omega
  · split
    · next h1 h2 =>
      exfalso
      apply h1
      omega
    · omega
theorem tnC_no {A : zAb} (hW : zWf A) {k o c e : Nat} (h : tnD k o c = (e : Int)) (he : acell A e = false) : tnC A k o c = -9 := by
  rcases tnC_r hW k o c with q | ⟨x, q, q2, q3⟩
  · exact q
  · have := (tnD_C hW q3).mpr q
    have : x = e := by omega
    rw [this, he] at q3
    cases q3
theorem tnC_no9 {A : zAb} (hW : zWf A) {k o c : Nat} (h : tnD k o c = -9) : tnC A k o c = -9 := by
  rcases tnC_r hW k o c with q | ⟨x, q, q2, q3⟩
  · exact q
  · have := (tnD_C hW q3).mpr q
    omega
section zCn2
variable {d kc ks : Nat} {σ : zSt} {A : zAb} {Q : Option zV → zSt → Prop}
/-- the rows of turnings -/
def zXT (σ : zSt) : Prop := ∀ k, k < 8 → zgi σ 2 0 k = iI (tXX k) ∧ zgi σ 3 0 k = iI (tXY k) ∧ zgi σ 4 0 k = iI (tYX k) ∧ zgi σ 5 0 k = iI (tYY k)
theorem S_X2_turnedCell {ph : Bool} {K : Int32 → zSt → Prop} (hX : zXT σ) {k o c : Nat} (hk : k < 8) (ho : o < 64) (hc : c < 64) (hK : K (iI (tnD k o c)) σ) : zCi ph (d + 2) 0 0 M_X2_turnedCell [.inr (.inr (12, 0)), .inl (nI k), .inl (nI o), .inl (nI c)] σ K := by
  obtain ⟨e1, e2, e3, e4⟩ := hX k hk
  have i8 : vp_in (nI k) 8 := nI_in hk (by omega)
  refine zC_intro pl_X2 (Nat.le_of_ble_eq_true rfl) (T_X2_turnedCell_0 ?_)
  have rx : -7 ≤ ((c % 8 : Nat) : Int) - ((o % 8 : Nat) : Int) ∧ ((c % 8 : Nat) : Int) - ((o % 8 : Nat) : Int) ≤ 7 := by omega
  have ry : -7 ≤ ((c / 8 : Nat) : Int) - ((o / 8 : Nat) : Int) ∧ ((c / 8 : Nat) : Int) - ((o / 8 : Nat) : Int) ≤ 7 := by omega
  have rU := tnU_r (k := k) rx ry
  have rV := tnV_r (k := k) rx ry
  have eU := tnU_m (((c % 8 : Nat) : Int) - ((o % 8 : Nat) : Int)) (((c / 8 : Nat) : Int) - ((o / 8 : Nat) : Int)) k hk
  have eV := tnV_m (((c % 8 : Nat) : Int) - ((o % 8 : Nat) : Int)) (((c / 8 : Nat) : Int) - ((o / 8 : Nat) : Int)) k hk
  unfold tnD at hK
  simp only at hK
  rw [nI_clamp (show k < 2 ^ 31 by omega), e1, e2, e3, e4, nI_and7 o ho, nI_and7 c hc, nI_shr3 o ho, nI_shr3 c hc]
  have sX : nI (o % 8) + iI (tXX k) * (nI (c % 8) - nI (o % 8)) + iI (tXY k) * (nI (c / 8) - nI (o / 8)) = iI (((o % 8 : Nat) : Int) + tnU k (((c % 8 : Nat) : Int) - ((o % 8 : Nat) : Int)) (((c / 8 : Nat) : Int) - ((o / 8 : Nat) : Int))) := by
    rw [← eU, ← iI_nat, ← iI_nat, ← iI_nat, ← iI_nat, iI_sub, iI_sub, iI_mul, iI_mul, iI_add, iI_add, Int.add_assoc]
  have sY : nI (o / 8) + iI (tYX k) * (nI (c % 8) - nI (o % 8)) + iI (tYY k) * (nI (c / 8) - nI (o / 8)) = iI (((o / 8 : Nat) : Int) + tnV k (((c % 8 : Nat) : Int) - ((o % 8 : Nat) : Int)) (((c / 8 : Nat) : Int) - ((o / 8 : Nat) : Int))) := by
    rw [← eV, ← iI_nat, ← iI_nat, ← iI_nat, ← iI_nat, iI_sub, iI_sub, iI_mul, iI_mul, iI_add, iI_add, Int.add_assoc]
  rw [sX, sY]
  generalize tnU k (((c % 8 : Nat) : Int) - ((o % 8 : Nat) : Int)) (((c / 8 : Nat) : Int) - ((o / 8 : Nat) : Int)) = u at rU hK ⊢
  generalize tnV k (((c % 8 : Nat) : Int) - ((o % 8 : Nat) : Int)) (((c / 8 : Nat) : Int) - ((o / 8 : Nat) : Int)) = v at rV hK ⊢
  have c7 : ∀ z : Int, -8 ≤ z ∧ z ≤ 15 → ((0 ≤ iI z ∧ iI z ≤ 7) ↔ (0 ≤ z ∧ z ≤ 7)) := fun z hz => by
    have h1 : (0 ≤ iI z) ↔ 0 ≤ z := iI_le (a := 0) (by omega) (by omega)
    have h2 : (iI z ≤ 7) ↔ z ≤ 7 := iI_le (b := 7) (by omega) (by omega)
    rw [h1, h2]
  rw [zb_0, zb_0, c7 _ (by omega), c7 _ (by omega)]
  refine ⟨i8, i8, i8, i8, fun g => ⟨_, rfl, ?_⟩, fun g => ⟨_, rfl, ?_⟩⟩
  · rw [if_neg (fun q => g.elim (fun z => z q.1) (fun z => z q.2))] at hK
    exact hK
  · rw [if_pos ⟨Decidable.not_not.mp (fun z => g (Or.inl z)), Decidable.not_not.mp (fun z => g (Or.inr z))⟩] at hK
    rw [show (8 : Int32) = iI 8 from rfl, iI_mul, iI_add]
    exact hK
/-- what is linked to a set, out of it -/
def arB (A : zAb) (p : Nat → Bool) (u : Nat) : Bool := aAny (fun x => p x && lkB A x u) 32 && !p u
theorem L_X1_around (hW : zWf A) (hL : zLk A σ) {p : Nat → Bool} (hp : ∀ x, p x = true → x < aN A) (hQ : Q (some (.inl (yset (arB A p) 32))) σ) : ∀ (n k : Nat), k + n = 32 → zE true (d + 3) kc ks M_X1_around 4 [some (.inr (.inr (7, 0))), some (.inl (yset p 32)), some (.inl (yset (fun u => aAny (fun x => p x && lkB A x u) k) 32)), some (.inl (yab p k))] [] σ Q := by
  have hN : aN A ≤ 24 := hW.1.2.2.2.2.1
  intro n
  induction n with
  | zero =>
    intro k hk
    have : k = 32 := by omega
    subst this
    refine T_X1_around_4 ⟨fun _ => ?_, fun g => absurd (yab_32 p) g⟩
    have e : yset (fun u => aAny (fun x => p x && lkB A x u) 32) 32 &&& (yset p 32 ^^^ (-1)) = yset (arB A p) 32 := yset_eq (fun i hi => by
      rw [b_and, bt_not _ hi, bt_set hi, bt_set hi]; rfl)
    rw [e]
    exact hQ
  | succ n ih =>
    intro k hk
    by_cases z : p k = true
    · obtain ⟨y1, y2, y3⟩ := yab_low (show k < 32 by omega) z
      have hkN := hp k z
      refine T_X1_around_4 ⟨fun q => absurd q y2, fun _ => ?_⟩
      rw [y1, y3, nI_clamp (show k < 2 ^ 31 by omega), hL k hkN]
      refine ⟨nI_in (by omega) (by omega), ?_⟩
      have e : yset (fun u => aAny (fun x => p x && lkB A x u) k) 32 ||| yset (lkB A k) 32 = yset (fun u => aAny (fun x => p x && lkB A x u) (k + 1)) 32 := yset_eq (fun i hi => by
        rw [b_or, bt_set hi, bt_set hi, aAny, z, Bool.true_and])
      rw [e]
      exact ih (k + 1) (by omega)
    · rw [Bool.not_eq_true] at z
      rw [yab_skip z]
      have e : yset (fun u => aAny (fun x => p x && lkB A x u) k) 32 = yset (fun u => aAny (fun x => p x && lkB A x u) (k + 1)) 32 := yset_cong (fun i hi => by
        rw [aAny, z, Bool.false_and, Bool.or_false])
      rw [e]
      exact ih (k + 1) (by omega)
theorem S_X1_around {K : Int32 → zSt → Prop} (hW : zWf A) (hL : zLk A σ) {p : Nat → Bool} (hp : ∀ x, p x = true → x < aN A) (hK : K (yset (arB A p) 32) σ) : zCi true (d + 3) 0 0 M_X1_around [.inr (.inr (7, 0)), .inl (yset p 32)] σ K := by
  refine zC_intro pl_X1 (Nat.le_of_ble_eq_true rfl) (T_X1_around_0 ?_)
  have e : (0 : Int32) = yset (fun u => aAny (fun x => p x && lkB A x u) 0) 32 := yset_eq (fun i hi => by rw [b_0]; rfl)
  have := L_X1_around (d := d) (kc := 0) (ks := 0) (p := p) (Q := fun r σ' => ∃ x, r = some (.inl x) ∧ K x σ') hW hL hp ⟨_, rfl, hK⟩ 32 0 rfl
  rw [← e, ← yab_0] at this
  exact this
/-- a part hangs on its joints alone -/
theorem arB_hg (hW : zWf A) {p : Nat → Bool} (hp : ∀ x, p x = true → x < aN A) {j : Nat} {b : Int} (hj : j < aN A) (hb : -1 ≤ b ∧ b < aN A) (hjp : p j = false) (hbp : ∀ n : Nat, b = (n : Int) → p n = false) : (yset (arB A p) 32 = yset (fun u => decide (u = j) || decide ((u : Int) = b)) 32) ↔ hgB A p j b = true := by
  have hN : aN A ≤ 24 := hW.1.2.2.2.2.1
  -- a thing is around when some measure in use leads to it from the part
  have key : ∀ u, arB A p u = true ↔ ∃ m, m < aM A ∧ hgD A p m = true ∧ hgO A p m = u := fun u => by
    unfold arB
    rw [Bool.and_eq_true, aAny_iff, Bool.not_eq_true']
    constructor
    · rintro ⟨⟨x, hx, h1⟩, h2⟩
      rw [Bool.and_eq_true] at h1
      obtain ⟨m, m1, m2, m3⟩ := lkB_iff.mp h1.2
      refine ⟨m, m1, ?_, ?_⟩
      · unfold hgD
        rcases m3 with ⟨rfl, rfl⟩ | ⟨rfl, rfl⟩
        · rw [m2, h1.1, h2]; rfl
        · rw [m2, h1.1, h2]; rfl
      · unfold hgO
        rcases m3 with ⟨rfl, rfl⟩ | ⟨rfl, rfl⟩
        · rw [if_pos h1.1]
        · rw [if_neg (by rw [h2]; decide)]
    · rintro ⟨m, m1, m2, m3⟩
      obtain ⟨w1, w2, w3, -⟩ := hW.2.2.1 m m1
      unfold hgD at m2
      rw [Bool.and_eq_true] at m2
      unfold hgO at m3
      by_cases z : p (mA A m) = true
      · rw [if_pos z] at m3
        subst m3
        have hz : p (mB A m) = false := by
          have := m2.2
          rw [z] at this
          simpa using this
        exact ⟨⟨mA A m, by omega, by rw [z, lkB_iff.mpr ⟨m, m1, m2.1, Or.inl ⟨rfl, rfl⟩⟩]; rfl⟩, hz⟩
      · rw [if_neg z] at m3
        subst m3
        rw [Bool.not_eq_true] at z
        have hz : p (mB A m) = true := by
          have := m2.2
          rw [z] at this
          simpa using this
        exact ⟨⟨mB A m, by omega, by rw [hz, lkB_iff.mpr ⟨m, m1, m2.1, Or.inr ⟨rfl, rfl⟩⟩]; rfl⟩, z⟩
  have lt : ∀ m, m < aM A → hgO A p m < 32 := fun m hm => by
    obtain ⟨w1, w2, w3, -⟩ := hW.2.2.1 m hm
    unfold hgO
    split <;> omega
  rw [yset_inj]
  unfold hgB
  rw [Bool.and_eq_true, Bool.and_eq_true, Bool.not_eq_true', aAny_f, Bool.or_eq_true, decide_eq_true_eq, aAny_iff, aAny_iff]
  constructor
  · intro h
    refine ⟨⟨fun m hm => ?_, ?_⟩, ?_⟩
    · by_cases z : hgD A p m = true
      · have := (h _ (lt m hm)).symm.trans ((key _).mpr ⟨m, hm, z, rfl⟩)
        rw [z, this]; rfl
      · rw [Bool.not_eq_true] at z
        rw [z]; rfl
    · have := (h j (by omega)).trans (by simp : (decide (j = j) || decide ((j : Int) = b)) = true)
      obtain ⟨m, m1, m2, m3⟩ := (key j).mp this
      exact ⟨m, m1, by rw [m2, m3]; simp⟩
    · by_cases z : b < 0
      · exact Or.inl z
      · refine Or.inr ?_
        obtain ⟨n, rfl⟩ : ∃ n : Nat, b = (n : Int) := ⟨b.toNat, by omega⟩
        have := (h n (by omega)).trans (by simp : (decide (n = j) || decide ((n : Int) = (n : Int))) = true)
        obtain ⟨m, m1, m2, m3⟩ := (key n).mp this
        exact ⟨m, m1, by rw [m2, m3]; simp⟩
  · rintro ⟨⟨h1, h2⟩, h3⟩ u hu
    rw [Bool.eq_iff_iff, key, Bool.or_eq_true, decide_eq_true_eq, decide_eq_true_eq]
    constructor
    · rintro ⟨m, m1, m2, rfl⟩
      have := h1 m m1
      rw [m2, Bool.true_and, Bool.not_eq_false', Bool.or_eq_true, decide_eq_true_eq, decide_eq_true_eq] at this
      exact this
    · rintro (rfl | q)
      · obtain ⟨m, m1, m2⟩ := h2
        rw [Bool.and_eq_true, decide_eq_true_eq] at m2
        exact ⟨m, m1, m2.1, m2.2⟩
      · obtain ⟨m, m1, m2⟩ := h3.resolve_left (by omega)
        rw [Bool.and_eq_true, decide_eq_true_eq] at m2
        exact ⟨m, m1, m2.1, by omega⟩
end zCn2
