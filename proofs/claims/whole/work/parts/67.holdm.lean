/-! holds: H.1 what each holds (-9 none, 0 a thing, 1 a measure); H.2 number, kind, sum, more -/
abbrev zHo : Type := (Nat → Int) × (Nat → Nat → Int)
def zWh (H : zHo) : Prop := ∀ k, k < 8 → H.1 k = -9 ∨ (H.1 k = 0 ∧ (0 ≤ H.2 0 k ∧ H.2 0 k < 24) ∧ (0 ≤ H.2 1 k ∧ H.2 1 k ≤ 2) ∧ H.2 2 k = 3 * H.2 0 k ∧ -9 ≤ H.2 3 k ∧ H.2 3 k < 64) ∨ (H.1 k = 1 ∧ (0 ≤ H.2 0 k ∧ H.2 0 k < 60) ∧ (0 ≤ H.2 1 k ∧ H.2 1 k ≤ 4) ∧ (0 ≤ H.2 2 k ∧ H.2 2 k < 100) ∧ 0 ≤ H.2 3 k ∧ H.2 3 k ≤ 300)
def zRh (H : zHo) (σ : zSt) : Prop := ∀ k, k < 8 → zgi σ 93 0 k = iI (H.1 k) ∧ (0 ≤ H.1 k → zgi σ 94 0 k = iI (H.2 0 k) ∧ zgi σ 95 0 k = iI (H.2 1 k) ∧ zgi σ 96 0 k = iI (H.2 2 k) ∧ zgi σ 97 0 k = iI (H.2 3 k))
def hNew (H : zHo) (k : Nat) (w a b c e : Int) : zHo := (fun i => if i = k then w else H.1 i, fun f i => if i = k then (if f = 0 then a else if f = 1 then b else if f = 2 then c else e) else H.2 f i)
def hLose (H : zHo) (k : Nat) : zHo := (fun i => if i = k then -9 else H.1 i, H.2)
abbrev hoI (a : Int32) : Prop := 0 ≤ a.toInt ∧ a.toInt ≤ 7
theorem hoI_nI {a : Int32} (h : hoI a) : ∃ k, k < 8 ∧ a = nI k := ⟨a.toInt.toNat, by have := h.1; have := h.2; omega, zI_of h.1⟩
theorem iI_add (a b : Int) : iI a + iI b = iI (a + b) := by unfold iI; rw [Int32.ofInt_add]
theorem iI_mul (a b : Int) : iI a * iI b = iI (a * b) := by unfold iI; rw [Int32.ofInt_mul]
theorem iI_sub (a b : Int) : iI a - iI b = iI (a - b) := by unfold iI; rw [Int32.ofInt_sub]
theorem i01 (e : Int32) : (0 ≤ e.toInt64 ∧ e.toInt64 ≤ 1) ↔ (e = 0 ∨ e = 1) := by
  have h2 : (0 ≤ e.toInt64 ∧ e.toInt64 ≤ 1) ↔ (((0 : Nat) : Int) ≤ e.toInt ∧ e.toInt ≤ ((1 : Nat) : Int)) := zin_c e (l := 0) (h := 1) (by omega) (by omega)
  have e0 : (0 : Int32).toInt = 0 := rfl
  have e1 : (1 : Int32).toInt = 1 := rfl
  rw [h2, ← Int32.toInt_inj, ← Int32.toInt_inj, e0, e1]
  omega
theorem wh_lose {H : zHo} {k : Nat} (h : zWh H) : zWh (hLose H k) := by
  intro j hj
  unfold hLose
  by_cases e : j = k
  · simp only [if_pos e]; exact Or.inl trivial
  · simp only [if_neg e]; exact h j hj
theorem wh_rng {H : zHo} (h : zWh H) {k : Nat} (hk : k < 8) : H.1 k = -9 ∨ H.1 k = 0 ∨ H.1 k = 1 := by
  rcases h k hk with q | q | q
  · exact Or.inl q
  · exact Or.inr (Or.inl q.1)
  · exact Or.inr (Or.inr q.1)
/-- whether what is held is taken as a kind -/
def hTk (w h e : Int) : Bool := if e < 3 then decide (w = 0) && decide (e ≤ h) else if w = 0 then false else if e = 3 then true else if e = 4 then !decide (h = 3) else if e = 5 then decide (h = 1) || decide (h = 2) || decide (h = 4) else if e = 6 then decide (h = 2) else if e = 7 then decide (h = 3) else decide (h = 4)
/-- as: answer, fault -/
def asF (H : zHo) (a e : Int32) : Int × Int := if ¬ hoI a then (-1, 0) else if ¬ (0 ≤ e.toInt ∧ e.toInt ≤ 8) then (-2, 0) else if H.1 a.toInt.toNat < 0 then (-11, 1) else if hTk (H.1 a.toInt.toNat) (H.2 1 a.toInt.toNat) e.toInt = true then (H.2 0 a.toInt.toNat, 0) else (-12, 2)
/-- numbers left in TRACE, one behind the other -/
def trF (x : Int32) (l : List Int32) : Int32 := l.foldl (fun t n => 31 * t + n) x
def trT (h : Int) : List Int32 := if h = 2 then [3, 2, 1, 1] else if h = 1 then [2, 1] else [1]
def trM (h : Int) : List Int32 := if h = 0 then [5, 4] else if h = 1 then [6, 5, 4] else if h = 2 then [7, 6, 5, 4, 4] else if h = 3 then [4] else [8, 5, 4]
def tlT (h s m : Int) : Int := s + (if 0 < h then m else 0) + (if h = 2 then s else 0)
def tlM (h s m : Int) : Int := if h = 0 then s + m else if h = 1 then s + m - 1000 else if h = 2 then s + m - 1000 + s else if h = 3 then s else 2 * (s + m)
def grT (h : Int) : List Int32 := if h = 2 then [10, 9] else [9]
def grM (h : Int) : List Int32 := if h = 4 then [13, 12, 11] else if h = 1 ∨ h = 2 then [12] else [11]
def gtT (h n : Int) : Int := n + (if h = 2 then 500 else 0)
def gtM (h : Int) : Int := if h = 1 ∨ h = 2 then 7 else if h = 4 then 17 + h else 10 + h
/-- tell, greet: answer, fault, what is left in TRACE -/
def tlF (H : zHo) (a e : Int32) : Int × Int × List Int32 := if ¬ hoI a then (-1, 0, []) else if ¬ (e = 0 ∨ e = 1) then (-2, 0, []) else if H.1 a.toInt.toNat < 0 then (-11, 1, []) else if ¬ H.1 a.toInt.toNat = e.toInt then (-12, 2, []) else if e = 0 then (tlT (H.2 1 a.toInt.toNat) (H.2 2 a.toInt.toNat) (H.2 3 a.toInt.toNat), 0, trT (H.2 1 a.toInt.toNat)) else (tlM (H.2 1 a.toInt.toNat) (H.2 2 a.toInt.toNat) (H.2 3 a.toInt.toNat), 0, trM (H.2 1 a.toInt.toNat))
def grF (H : zHo) (a e : Int32) : Int × Int × List Int32 := if ¬ hoI a then (-1, 0, []) else if ¬ (e = 0 ∨ e = 1) then (-2, 0, []) else if H.1 a.toInt.toNat < 0 then (-11, 1, []) else if ¬ H.1 a.toInt.toNat = e.toInt then (-12, 2, []) else if e = 0 then (gtT (H.2 1 a.toInt.toNat) (H.2 0 a.toInt.toNat), 0, grT (H.2 1 a.toInt.toNat)) else (gtM (H.2 1 a.toInt.toNat), 0, grM (H.2 1 a.toInt.toNat))
theorem zRh.only {H : zHo} {σ σ' : zSt} {M : Nat → Nat → Nat → Prop} (h : zRh H σ) (ho : zOnly M σ σ') (hm : ∀ k, ¬ M 93 0 k ∧ ¬ M 94 0 k ∧ ¬ M 95 0 k ∧ ¬ M 96 0 k ∧ ¬ M 97 0 k) : zRh H σ' := fun k hk => by
  obtain ⟨m1, m2, m3, m4, m5⟩ := hm k
  rw [ho.i 93 0 k m1, ho.i 94 0 k m2, ho.i 95 0 k m3, ho.i 96 0 k m4, ho.i 97 0 k m5]
  exact h k hk
section zMe
variable {d kc ks : Nat} {σ : zSt} {A : zAb} {H : zHo} {Q : Option zV → zSt → Prop}
theorem S_X12_traced {ph : Bool} {K : zSt → Prop} (n : Int32) (hK : K (zsi σ 54 0 78 (31 * zgi σ 54 0 78 + n))) : zCv ph (d + 1) 0 0 M_X12_traced [.inr (.inr (54, 0)), .inl (n)] σ K := zC_intro pl_X12 (Nat.le_of_ble_eq_true rfl) (T_X12_traced_0 ⟨rfl, hK⟩)
theorem O_X12_hold {K : Int32 → zSt → Prop} (hW : zWf A) (hR : zRM A σ) (hH : zRh H σ) (a b e : Int32) (hno : (¬ hoI a ∨ (hoI a ∧ ((b = 0 ∧ ¬ tI A e = true) ∨ (b = 1 ∧ ¬ mI A e = true)))) → K (-1) σ) (hout : hoI a → ¬ (b = 0 ∨ b = 1) → K (-2) σ)
    (hth : ∀ k t, k < 8 → t < aN A → a = nI k → b = 0 → e = nI t → ∀ σ', zRh (hNew H k 0 t (aK A t) (3 * t) (aC A t)) σ' → zOnly (fun c _ _ => 93 ≤ c ∧ c ≤ 97) σ σ' → K 1 σ')
    (hme : ∀ k m, k < 8 → m < aM A → a = nI k → b = 1 → e = nI m → ∀ σ', zRh (hNew H k 1 m (mK A m) (mA A m + mB A m : Int) (mP A m + mQ A m : Int)) σ' → zOnly (fun c _ _ => 93 ≤ c ∧ c ≤ 97) σ σ' → K 1 σ') : zCi true (d + 3) 0 0 M_X12_hold [.inr (.inr (54, 0)), .inl (a), .inl (b), .inl (e)] σ K := by
  have hN : aN A ≤ 24 := hW.1.2.2.2.2.1
  have hM : aM A ≤ 60 := hW.1.2.2.2.2.2.1
  have put : ∀ (k : Nat) (w p1 p2 p3 p4 : Int), k < 8 → zRh (hNew H k w p1 p2 p3 p4) (zsi (zsi (zsi (zsi (zsi σ 93 0 k (iI w)) 94 0 k (iI p1)) 95 0 k (iI p2)) 96 0 k (iI p3)) 97 0 k (iI p4)) := by
    intro k w p1 p2 p3 p4 hk j hj
    simp only [zgi_si]
    by_cases z : j = k
    · subst z
      simp [hNew]
    · simp [hNew, z]
      exact hH j hj
  have oo : ∀ (k : Nat) (x1 x2 x3 x4 x5 : Int32), zOnly (fun c _ _ => 93 ≤ c ∧ c ≤ 97) σ (zsi (zsi (zsi (zsi (zsi σ 93 0 k x1) 94 0 k x2) 95 0 k x3) 96 0 k x4) 97 0 k x5) := fun k x1 x2 x3 x4 x5 => ((((zOnly.si (by omega)).tr (zOnly.si (by omega))).tr (zOnly.si (by omega))).tr (zOnly.si (by omega))).tr (zOnly.si (by omega))
  refine zC_intro pl_X12 (Nat.le_of_ble_eq_true rfl) (T_X12_hold_0 (S_X12_noHold a ⟨fun h => ⟨fun h2 => ⟨fun h3 => S_X12_noMeasure hW hR e ⟨fun h4 => ?_, fun h4 => ⟨_, rfl, hno ?_⟩⟩, fun h3 => S_X12_noThing hW hR e ⟨fun h4 => ?_, fun h4 => ⟨_, rfl, hno ?_⟩⟩⟩, fun h2 => ⟨_, rfl, hout ?_ ?_⟩⟩, fun h => ⟨_, rfl, hno ?_⟩⟩))
  · rw [zb_0, Decidable.not_not] at h h4
    rw [zb_0, Decidable.not_not, i01] at h2
    have hb1 : b = 1 := h2.resolve_left h3
    obtain ⟨k, hk, rfl⟩ := hoI_nI h
    obtain ⟨m, hm, rfl⟩ := mI_nI h4
    obtain ⟨r1, r2, r3, r4, r5, r6⟩ := hR.2.2.1 m hm
    have i60 : vp_in (nI m) 60 := nI_in (by omega) (by omega)
    have i8 : vp_in (nI k) 8 := nI_in (by omega) (by omega)
    refine T_X12_hold_47 ?_
    rw [nI_clamp (show k < 2 ^ 31 by omega), nI_clamp (show m < 2 ^ 31 by omega), r1, r2, r3, r4, r5, nI_add, nI_add]
    refine ⟨i8, i8, fun _ => i60, fun q => absurd q h3, fun x2 hx2 => ⟨i8, fun _ => i60, fun _ => i60, fun x4 hx4 => ⟨i8, fun _ => i60, fun _ => i60, fun q => absurd q h3, fun x6 hx6 => ⟨i8, _, rfl, ?_⟩⟩⟩⟩
    rw [if_pos h3] at hx2 hx4 hx6
    subst hx2 hx4 hx6
    rw [hb1]
    exact hme k m hk hm rfl hb1 rfl _ (put k 1 m (mK A m) (mA A m + mB A m : Int) (mP A m + mQ A m : Int) hk) (oo _ _ _ _ _ _)
  · rw [zb_0, Decidable.not_not] at h
    rw [zb_0, Decidable.not_not, i01] at h2
    rw [zb_0, Decidable.not_not] at h4
    exact Or.inr ⟨h, Or.inr ⟨h2.resolve_left h3, h4⟩⟩
  · rw [zb_0, Decidable.not_not] at h h4
    obtain ⟨k, hk, rfl⟩ := hoI_nI h
    obtain ⟨t, ht, rfl⟩ := tI_nI h4
    obtain ⟨r1, r2, -⟩ := hR.2.1 t ht
    have i24 : vp_in (nI t) 24 := nI_in (by omega) (by omega)
    have i8 : vp_in (nI k) 8 := nI_in (by omega) (by omega)
    refine T_X12_hold_47 ?_
    rw [nI_clamp (show k < 2 ^ 31 by omega), nI_clamp (show t < 2 ^ 31 by omega), r1, r2, show (3 : Int32) = nI 3 from rfl, nI_mul]
    refine ⟨i8, i8, fun q => absurd h3 q, fun _ => i24, fun x2 hx2 => ⟨i8, fun q => absurd h3 q, fun q => absurd h3 q, fun x4 hx4 => ⟨i8, fun q => absurd h3 q, fun q => absurd h3 q, fun _ => i24, fun x6 hx6 => ⟨i8, _, rfl, ?_⟩⟩⟩⟩
    rw [if_neg (fun q => q h3)] at hx2 hx4 hx6
    subst hx2 hx4 hx6
    rw [h3]
    exact hth k t hk ht rfl h3 rfl _ (put k 0 t (aK A t) (3 * t) (aC A t) hk) (oo _ _ _ _ _ _)
  · rw [zb_0, Decidable.not_not] at h
    rw [zb_0, Decidable.not_not] at h4
    exact Or.inr ⟨h, Or.inl ⟨h3, h4⟩⟩
  · rw [zb_0, Decidable.not_not] at h
    exact h
  · rw [zb_0, i01] at h2
    exact h2
  · rw [zb_0, Decidable.not_not] at h
    exact Or.inl h
theorem O_X12_loose {K : Int32 → zSt → Prop} (hW : zWh H) (hH : zRh H σ) (a : Int32) (hno : ¬ hoI a → K (-1) σ) (hyes : ∀ k, k < 8 → a = nI k → ∀ σ', zRh (hLose H k) σ' → zOnly (fun c _ _ => c = 93) σ σ' → K (zb (0 ≤ H.1 k)) σ') : zCi true (d + 3) 0 0 M_X12_loose [.inr (.inr (54, 0)), .inl (a)] σ K := by
  refine zC_intro pl_X12 (Nat.le_of_ble_eq_true rfl) (T_X12_loose_0 (S_X12_noHold a ⟨fun h => ?_, fun h => ⟨_, rfl, hno ?_⟩⟩))
  · rw [zb_0, Decidable.not_not] at h
    obtain ⟨k, hk, rfl⟩ := hoI_nI h
    have i8 : vp_in (nI k) 8 := nI_in (by omega) (by omega)
    have r := wh_rng hW hk
    refine ⟨i8, fun x hx => ⟨i8, _, rfl, ?_⟩⟩
    rw [nI_clamp (show k < 2 ^ 31 by omega)] at hx ⊢
    have ex : x = zb (0 ≤ H.1 k) := by
      rw [hx, (hH k hk).1]
      exact zb_of1 (iI_le (a := 0) (by omega) (by omega))
    rw [ex]
    refine hyes k hk rfl _ (fun j hj => ?_) (zOnly.si rfl)
    simp only [zgi_si]
    by_cases z : j = k
    · subst z
      simp [hLose]
      rfl
    · simp [hLose, z]
      exact hH j hj
  · rw [zb_0, Decidable.not_not] at h
    exact h
theorem S_X12_isTaken {K : Int32 → zSt → Prop} (hW : zWh H) (hH : zRh H σ) {k e : Nat} (hk : k < 8) (he : e ≤ 8) (h0 : 0 ≤ H.1 k) (hK : K (zb (hTk (H.1 k) (H.2 1 k) e = true)) σ) : zCi true (d + 1) 0 0 M_X12_isTaken [.inr (.inr (54, 0)), .inl (nI k), .inl (nI e)] σ K := by
  have i8 : vp_in (nI k) 8 := nI_in (by omega) (by omega)
  obtain ⟨e93, e9⟩ := hH k hk
  obtain ⟨e94, e95, e96, e97⟩ := e9 h0
  have hr : (H.1 k = 0 ∨ H.1 k = 1) ∧ 0 ≤ H.2 1 k ∧ H.2 1 k ≤ 4 := by rcases hW k hk with q | q | q <;> omega
  have c0 : (iI (H.1 k) = 0) ↔ H.1 k = 0 := iI_eqI (b := 0) (by omega) (by omega)
  have cn : ∀ n : Nat, n < 9 → ((iI (H.2 1 k) = nI n) ↔ H.2 1 k = (n : Int)) := fun n hn => iI_eqI (b := (n : Int)) (by omega) (by omega)
  have ce : ∀ n : Nat, n < 9 → ((nI e = nI n) ↔ e = n) := fun n hn => nI_eq (by omega) (by omega)
  have c1 := cn 1 (by omega)
  have c2 := cn 2 (by omega)
  have c3 := cn 3 (by omega)
  have c4 := cn 4 (by omega)
  refine zC_intro pl_X12 (Nat.le_of_ble_eq_true rfl) (T_X12_isTaken_0 ?_)
  rw [nI_clamp (show k < 2 ^ 31 by omega), e93, e95]
  have cle : (3 : Int32) ≤ nI e ↔ 3 ≤ e := nI_leI (a := 3) (by omega) (by omega)
  refine ⟨i8, fun g => ⟨i8, fun g2 => ⟨fun g3 => ⟨_, rfl, ?_⟩, fun g3 x hx => ⟨_, rfl, ?_⟩, fun g3 x hx => ⟨_, rfl, ?_⟩, fun g3 x hx => ⟨_, rfl, ?_⟩, fun g3 x hx => ⟨_, rfl, ?_⟩, fun g3 g4 g5 g6 g7 x hx => ⟨_, rfl, ?_⟩⟩, fun g2 => ⟨_, rfl, ?_⟩⟩, fun g => ⟨i8, fun x hx => ⟨_, rfl, ?_⟩⟩⟩
  · have z : e = 3 := (ce 3 (by omega)).mp g3
    subst z
    rw [c0] at g2
    have : hTk (H.1 k) (H.2 1 k) (3 : Nat) = true := by unfold hTk; rw [if_neg (by omega), if_neg g2, if_pos (by decide)]
    rw [this] at hK
    exact hK
  · have z : e = 4 := (ce 4 (by omega)).mp g3
    subst z
    rw [c0] at g2
    rw [hx, zb_of0 (P := hTk (H.1 k) (H.2 1 k) (4 : Nat) = true) ?_]
    · exact hK
    · unfold hTk
      rw [if_neg (by omega), if_neg g2, if_neg (by decide), if_pos (by decide), show (3 : Int32) = nI 3 from rfl, c3]
      simp
  · have z : e = 5 := (ce 5 (by omega)).mp g3
    subst z
    rw [c0] at g2
    rw [hx, zb_of1 (P := hTk (H.1 k) (H.2 1 k) (5 : Nat) = true) ?_]
    · exact hK
    · unfold hTk
      rw [if_neg (by omega), if_neg g2, if_neg (by decide), if_neg (by decide), if_pos (by decide), show (1 : Int32) = nI 1 from rfl, show (2 : Int32) = nI 2 from rfl, show (4 : Int32) = nI 4 from rfl, c1, c2, c4]
      simp [or_assoc]
  · have z : e = 6 := (ce 6 (by omega)).mp g3
    subst z
    rw [c0] at g2
    rw [hx, zb_of0 (P := hTk (H.1 k) (H.2 1 k) (6 : Nat) = true) ?_]
    · exact hK
    · unfold hTk
      rw [if_neg (by omega), if_neg g2, if_neg (by decide), if_neg (by decide), if_neg (by decide), if_pos (by decide), show (2 : Int32) = nI 2 from rfl, c2]
      simp
  · have z : e = 7 := (ce 7 (by omega)).mp g3
    subst z
    rw [c0] at g2
    rw [hx, zb_of0 (P := hTk (H.1 k) (H.2 1 k) (7 : Nat) = true) ?_]
    · exact hK
    · unfold hTk
      rw [if_neg (by omega), if_neg g2, if_neg (by decide), if_neg (by decide), if_neg (by decide), if_neg (by decide), if_pos (by decide), show (3 : Int32) = nI 3 from rfl, c3]
      simp
  · have n3 : e ≠ 3 := fun q => g3 ((ce 3 (by omega)).mpr q)
    have n4 : e ≠ 4 := fun q => g4 ((ce 4 (by omega)).mpr q)
    have n5 : e ≠ 5 := fun q => g5 ((ce 5 (by omega)).mpr q)
    have n6 : e ≠ 6 := fun q => g6 ((ce 6 (by omega)).mpr q)
    have n7 : e ≠ 7 := fun q => g7 ((ce 7 (by omega)).mpr q)
    rw [cle] at g
    rw [c0] at g2
    rw [hx, zb_of0 (P := hTk (H.1 k) (H.2 1 k) e = true) ?_]
    · exact hK
    · unfold hTk
      rw [if_neg (by omega), if_neg g2, if_neg (by omega), if_neg (by omega), if_neg (by omega), if_neg (by omega), if_neg (by omega), show (4 : Int32) = nI 4 from rfl, c4]
      simp
  · rw [cle] at g
    rw [c0] at g2
    have : hTk (H.1 k) (H.2 1 k) e = false := by unfold hTk; rw [if_neg (by omega), if_pos g2]
    rw [this] at hK
    exact hK
  · rw [cle] at g
    rw [hx, zb_of0 (P := hTk (H.1 k) (H.2 1 k) e = true) ?_]
    · exact hK
    · unfold hTk
      have := iI_lt (a := H.2 1 k) (b := (e : Int)) (by omega) (by omega)
      rw [if_pos (by omega), show nI e = iI (e : Int) from rfl, this, c0]
      simp only [Bool.and_eq_true, decide_eq_true_eq]
      omega
theorem O_X12_as {K : Int32 → zSt → Prop} (hW : zWh H) (hH : zRh H σ) (a e : Int32) (hK : K (iI (asF H a e).1) (zsi σ 54 0 0 (iI (asF H a e).2))) : zCi true (d + 3) 0 0 M_X12_as [.inr (.inr (54, 0)), .inl (a), .inl (e)] σ K := by
  have he : (0 ≤ e.toInt64 ∧ e.toInt64 ≤ 8) ↔ (0 ≤ e.toInt ∧ e.toInt ≤ 8) := zin_c e (l := 0) (h := 8) (by omega) (by omega)
  refine zC_intro pl_X12 (Nat.le_of_ble_eq_true rfl) (T_X12_as_0 (S_X12_noHold a ⟨fun h => ⟨fun h2 => ?_, fun h2 => S_X12_refused _ ⟨_, rfl, ?_⟩⟩, fun h => S_X12_refused _ ⟨_, rfl, ?_⟩⟩))
  · rw [zb_0, Decidable.not_not] at h
    rw [zb_0, Decidable.not_not, he] at h2
    unfold asF at hK
    rw [if_neg (fun q => q h), if_neg (fun q => q h2)] at hK
    obtain ⟨k, hk, rfl⟩ := hoI_nI h
    obtain ⟨n, hn, rfl⟩ : ∃ n : Nat, n ≤ 8 ∧ e = nI n := ⟨e.toInt.toNat, by omega, zI_of h2.1⟩
    have i8 : vp_in (nI k) 8 := nI_in (by omega) (by omega)
    have r := wh_rng hW hk
    have c0 : (0 : Int32) ≤ iI (H.1 k) ↔ 0 ≤ H.1 k := iI_le (a := 0) (by omega) (by omega)
    rw [nI_toInt (show k < 2 ^ 31 by omega), nI_toInt (show n < 2 ^ 31 by omega), Int.toNat_natCast] at hK
    rw [nI_clamp (show k < 2 ^ 31 by omega), (hH k hk).1, c0]
    refine ⟨i8, fun g => ?_, fun g => S_X12_failed _ ⟨_, rfl, ?_⟩⟩
    · rw [if_neg (by omega)] at hK
      refine S_X12_isTaken hW hH hk hn g ⟨fun g2 => S_X12_failed _ ⟨_, rfl, ?_⟩, fun g2 => ⟨i8, S_X12_refused _ ⟨_, rfl, ?_⟩⟩⟩
      · rw [zb_0] at g2
        rw [if_neg g2] at hK
        exact hK
      · rw [zb_0, Decidable.not_not] at g2
        rw [if_pos g2] at hK
        rw [((hH k hk).2 g).1]
        exact hK
    · rw [if_pos (by omega)] at hK
      exact hK
  · rw [zb_0, Decidable.not_not] at h
    rw [zb_0, he] at h2
    unfold asF at hK
    rw [if_neg (fun q => q h), if_pos h2] at hK
    exact hK
  · rw [zb_0, Decidable.not_not] at h
    unfold asF at hK
    rw [if_pos h] at hK
    exact hK
/-- a call that leaves numbers in TRACE, and changes nothing else -/
def zTr (σ σ' : zSt) (l : List Int32) : Prop := zOnly (fun c _ k => c = 54 ∧ k = 78) σ σ' ∧ zgi σ' 54 0 78 = trF (zgi σ 54 0 78) l
theorem S_X12_tellThing {K : Int32 → zSt → Prop} {k : Nat} (hk : k < 8) {h s m : Int} (hh : h = 0 ∨ h = 1 ∨ h = 2) (e95 : zgi σ 95 0 k = iI h) (e96 : zgi σ 96 0 k = iI s) (e97 : zgi σ 97 0 k = iI m) (hK : ∀ σ', zTr σ σ' (trT h) → K (iI (tlT h s m)) σ') : zCi true (d + 2) 0 0 M_X12_tellThing [.inr (.inr (54, 0)), .inl (nI k)] σ K := by
  have i8 : vp_in (nI k) 8 := nI_in (by omega) (by omega)
  have o1 : ∀ (σ : zSt) (x : Int32), zOnly (fun c _ k => c = 54 ∧ k = 78) σ (zsi σ 54 0 78 x) := fun σ x => zOnly.si ⟨rfl, rfl⟩
  refine zC_intro pl_X12 (Nat.le_of_ble_eq_true rfl) (T_X12_tellThing_0 ?_)
  rw [nI_clamp (show k < 2 ^ 31 by omega), e95]
  have fin : ∀ σ' : zSt, zTr σ σ' (trT h) → zE true (d + 2) 0 0 M_X12_tellThing 41 [some (.inr (.inr (54, 0))), some (.inl (nI k)), some (.inl (iI h))] [] σ' (fun r σ' => ∃ x, r = some (.inl x) ∧ K x σ') := by
    intro σ' ht
    refine T_X12_tellThing_41 ?_
    rw [nI_clamp (show k < 2 ^ 31 by omega), ht.1.i 97 0 k (by omega), ht.1.i 96 0 k (by omega), e96, e97]
    refine ⟨i8, fun _ => i8, fun x2 hx2 => ⟨fun _ => i8, fun x4 hx4 => ⟨_, rfl, ?_⟩⟩⟩
    have q := hK σ' ht
    have g2 : x2 = iI (if 0 < h then m else 0) := by
      rw [hx2]
      rcases hh with rfl | rfl | rfl <;> rfl
    have g4 : x4 = iI (if h = 2 then s else 0) := by
      rw [hx4]
      rcases hh with rfl | rfl | rfl <;> rfl
    rw [g2, g4, iI_add, iI_add]
    exact q
  rcases hh with rfl | rfl | rfl
  · refine ⟨i8, fun _ => T_X12_tellThing_17 ⟨fun _ => T_X12_tellThing_26 (S_X12_traced 1 ⟨fun _ => fin _ ⟨o1 _ _, ?_⟩, fun g => absurd g (by decide)⟩), fun g => absurd (by decide) g⟩, fun g => absurd g (by decide)⟩
    rw [zgi_si, if_pos ⟨rfl, rfl, rfl⟩]; rfl
  · refine ⟨i8, fun _ => T_X12_tellThing_17 ⟨fun g => absurd g (by decide), fun _ => S_X12_traced 2 (T_X12_tellThing_26 (S_X12_traced 1 ⟨fun _ => fin _ ⟨(o1 _ _).tr (o1 _ _), ?_⟩, fun g => absurd g (by decide)⟩))⟩, fun g => absurd g (by decide)⟩
    rw [zgi_si, if_pos ⟨rfl, rfl, rfl⟩, zgi_si, if_pos ⟨rfl, rfl, rfl⟩]; rfl
  · refine ⟨i8, fun g => absurd rfl g, fun _ => S_X12_traced 3 (T_X12_tellThing_17 ⟨fun g => absurd g (by decide), fun _ => S_X12_traced 2 (T_X12_tellThing_26 (S_X12_traced 1 ⟨fun g => absurd rfl g, fun _ => S_X12_traced 1 (fin _ ⟨(((o1 _ _).tr (o1 _ _)).tr (o1 _ _)).tr (o1 _ _), ?_⟩)⟩))⟩)⟩
    rw [zgi_si, if_pos ⟨rfl, rfl, rfl⟩, zgi_si, if_pos ⟨rfl, rfl, rfl⟩, zgi_si, if_pos ⟨rfl, rfl, rfl⟩, zgi_si, if_pos ⟨rfl, rfl, rfl⟩]; rfl
end zMe
