/-! a field anew, walls by a sheet, measures by a sheet (class) -/
section zFw
variable {d kc ks j : Nat} {σ : zSt} {A : zAb} {B : zSh} {Q : Option zV → zSt → Prop}
theorem S_X1_clear {ph : Bool} {K : zSt → Prop} {w h : Nat} (hw : 1 ≤ w ∧ w ≤ 8) (hh : 1 ≤ h ∧ h ≤ 8) (hK : ∀ σ', zRD (aField A w h) σ' j → zOnly (fun c i _ => c = 7 ∧ i = j) σ σ' → σ'.2.2.2 = σ.2.2.2 → K σ') : zCv ph (d + 3) 0 0 M_X1_clear [.inr (.inr (7, j)), .inl (nI w), .inl (nI h)] σ K := by
  have e1 : nI w - 1 = nI (w - 1) := by rw [show (1 : Int32) = nI 1 from rfl, nI_sub hw.1]
  have e2 : nI h - 1 = nI (h - 1) := by rw [show (1 : Int32) = nI 1 from rfl, nI_sub hh.1]
  refine zC_intro pl_X1 (Nat.le_of_ble_eq_true rfl) (T_X1_clear_0 ?_)
  rw [e1, e2]
  refine S_X11_boxed (x1 := 0) (y1 := 0) (Nat.zero_le _) (by omega) (Nat.zero_le _) (by omega) ⟨rfl, hK _ ⟨⟨?_, ?_, ?_, ?_, ?_, ?_, ?_, ?_, ?_⟩, fun t ht => absurd ht (Nat.not_lt_zero t), fun t ht => absurd ht (Nat.not_lt_zero t), fun t ht => absurd ht (Nat.not_lt_zero t)⟩ ?_ rfl⟩
  · simp [zgi_si, zgi_sl]; rfl
  · simp [zgi_si, zgi_sl]; rfl
  · rw [zgl_si, zgl_si, zgl_sl, if_neg (by omega), zgl_si, zgl_si, zgl_si, zgl_sl, if_pos ⟨rfl, rfl, rfl⟩]
    refine zset_cong (fun c hc => ?_)
    show bxC 0 0 (w - 1) (h - 1) c = ((decide (c < 64) && decide (c % 8 < w) && decide (c / 8 < h)) && !(if 0 = 0 ∨ 0 = 3 then false else A.2.2.2 0 c))
    rw [if_pos (Or.inl rfl), decide_eq_true hc]
    unfold bxC
    rw [decide_eq_true (Nat.zero_le _), decide_eq_true (Nat.zero_le _), Bool.true_and, Bool.true_and, Bool.and_true, Bool.not_false, Bool.and_true]
    congr 1
    · rw [decide_eq_decide]; omega
    · rw [decide_eq_decide]; omega
  · simp [zgi_si, zgi_sl]; rfl
  · simp [zgi_si, zgi_sl]
    exact (yset_0.mpr (fun i hi => rfl)).symm
  · simp [zgi_si, zgi_sl]; rfl
  · rw [zgl_si, zgl_si, zgl_sl, if_pos ⟨rfl, rfl, rfl⟩]
    exact zset_eq (fun i hi => by rw [tb_0]; rfl)
  · simp [zgi_si, zgi_sl]; rfl
  · simp [zgi_si, zgi_sl]; rfl
  · exact ((((((((zOnly.si ⟨rfl, rfl⟩).tr (zOnly.si ⟨rfl, rfl⟩)).tr (zOnly.sl ⟨rfl, rfl⟩)).tr (zOnly.si ⟨rfl, rfl⟩)).tr (zOnly.si ⟨rfl, rfl⟩)).tr (zOnly.si ⟨rfl, rfl⟩)).tr (zOnly.sl ⟨rfl, rfl⟩)).tr (zOnly.si ⟨rfl, rfl⟩)).tr (zOnly.si ⟨rfl, rfl⟩)
abbrev zQfd (c j k : Nat) : Prop := (c = 7 ∧ j = 0) ∨ zCh c k ∨ (c = 9 ∧ k = 3)
theorem O_X11_field {K : Int32 → zSt → Prop} (a b : Int32) (hno : ¬ ((1 ≤ a.toInt ∧ a.toInt ≤ 8) ∧ 1 ≤ b.toInt ∧ b.toInt ≤ 8) → K (-2) σ)
    (hyes : ∀ w h, 1 ≤ w ∧ w ≤ 8 → 1 ≤ h ∧ h ≤ 8 → a = nI w → b = nI h → ∀ σ', zRD (aField A w h) σ' 0 → zForg σ' → zgl σ' 9 0 3 = 0 → zOnly zQfd σ σ' → σ'.2.2.2 = σ.2.2.2 → K (nI (w * h)) σ') : zCi true (d + 4) 0 0 M_X11_field [.inr (.inr (6, 0)), .inl (a), .inl (b)] σ K := by
  have c8 : ∀ x : Int32, (1 ≤ x ∧ x ≤ (8 : Int32)) ↔ (1 ≤ x.toInt ∧ x.toInt ≤ 8) := fun x => zin_k x (l := 1) (h := 8) (by omega) (by omega)
  refine zC_intro pl_X11 (Nat.le_of_ble_eq_true rfl) (T_X11_field_0 ⟨fun h => ⟨_, rfl, hno ?_⟩, fun h => ?_⟩)
  · rw [zb_0, zb_0, c8, c8] at h
    omega
  · rw [zb_0, zb_0, c8, c8] at h
    have h1 : 1 ≤ a.toInt ∧ a.toInt ≤ 8 := by omega
    have h2 : 1 ≤ b.toInt ∧ b.toInt ≤ 8 := by omega
    obtain ⟨w, hw, rfl⟩ : ∃ w : Nat, (1 ≤ w ∧ w ≤ 8) ∧ a = nI w := ⟨a.toInt.toNat, by omega, zI_of (by omega)⟩
    obtain ⟨v, hh, rfl⟩ : ∃ w : Nat, (1 ≤ w ∧ w ≤ 8) ∧ b = nI w := ⟨b.toInt.toNat, by omega, zI_of (by omega)⟩
    refine S_X1_clear (A := A) hw hh (fun σ1 r1 o1 h1 => S_X11_wallsChanged (fun σ2 o2 f2 s2 h2 => ⟨_, rfl, ?_⟩))
    rw [nI_mul]
    refine hyes w v hw hh rfl rfl σ2 (r1.only o2 h2 (fun c j k hb hq => by unfold zBD at hb; unfold zCh at hq; omega)) f2 s2 ((o1.mono (fun c j k q => Or.inl q)).tr (o2.mono (fun c j k q => Or.inr q))) (h2.trans h1)
/-- cells found free: the rows below y whole, and of y the cells left of x -/
def pnP (A : zAb) (f : Nat → Bool) (y x c : Nat) : Bool := acell A c && (decide (c / 8 < y) || (decide (c / 8 = y) && decide (c % 8 < x))) && !f (pIx A c)
theorem L_X11_planned20 (hW : zWf A) (hR : zRD A σ 0) {f : Nat → Bool} {k g y : Nat} (hg : g + aW A * aH A ≤ 64) (hf : ∀ x, x < aW A * aH A → f x = !decide (zgl σ 53 k (g + x) = 0)) (hy : y < aH A) (hnext : zE true (d + 2) kc ks M_X11_planned 5 [some (.inr (.inr (6, 0))), some (.inr (.inr (15, k))), some (.inl (nI g)), some (.inr (.inl (zset (pnP A f (y + 1) 0) 64))), none, some (.inl (nI (y + 1))), none] [] σ Q) : ∀ (n x : Nat), x + n = aW A → zE true (d + 2) kc ks M_X11_planned 20 [some (.inr (.inr (6, 0))), some (.inr (.inr (15, k))), some (.inl (nI g)), some (.inr (.inl (zset (pnP A f y x) 64))), none, some (.inl (nI y)), some (.inl (nI x))] [] σ Q := by
  have w := hW.1
  intro n
  induction n with
  | zero =>
    intro x hx
    have : x = aW A := by omega
    subst this
    refine T_X11_planned_20 ⟨fun _ => ?_, fun h => absurd (by rw [hR.1.1]; exact Int32.le_refl _) h⟩
    rw [← nI_succ, zset_cong (q := pnP A f (y + 1) 0) (fun c hc => ?_)]
    · exact hnext
    · unfold pnP
      by_cases z : acell A c = true
      · have z2 : c % 8 < aW A := by
          simp only [acell, Bool.and_eq_true, decide_eq_true_eq] at z
          exact z.1.2
        congr 2
        rw [decide_eq_true z2, Bool.and_true, decide_eq_false (Nat.not_lt_zero _), Bool.and_false, Bool.or_false]
        by_cases z3 : c / 8 < y
        · rw [decide_eq_true z3, decide_eq_true (show c / 8 < y + 1 by omega)]; rfl
        · rw [decide_eq_false z3, Bool.false_or, decide_eq_decide]
          omega
      · rw [Bool.not_eq_true] at z
        rw [z]
        rfl
  | succ n ih =>
    intro x hx
    have hlt : (y + 1) * aW A ≤ aH A * aW A := Nat.mul_le_mul_right _ (by omega)
    have hc1 : (y + 1) * aW A = y * aW A + aW A := Nat.succ_mul _ _
    have hc2 : aH A * aW A = aW A * aH A := Nat.mul_comm _ _
    have hix : y * aW A + x < aW A * aH A := by omega
    have e : (nI g + nI y * nI (aW A)) + nI x = nI (g + (y * aW A + x)) := by
      rw [nI_mul, nI_add, nI_add]
      congr 1
      omega
    have e8 : (8 : Int32) * nI y + nI x = nI (8 * y + x) := by rw [show (8 : Int32) = nI 8 from rfl, nI_mul, nI_add]
    have hac : acell A (8 * y + x) = true := by
      simp only [acell, Bool.and_eq_true, decide_eq_true_eq]
      omega
    have hpi : pIx A (8 * y + x) = y * aW A + x := by
      unfold pIx
      rw [show (8 * y + x) / 8 = y by omega, show (8 * y + x) % 8 = x by omega]
    have hfx := hf _ hix
    have step : ∀ b : Bool, f (y * aW A + x) = b → ∀ X : Int64, (∀ i, i < 64 → tb X i = (pnP A f y x i || (decide (i = 8 * y + x) && !b))) → X = zset (pnP A f y (x + 1)) 64 := fun b hb X hX => zset_eq (fun i hi => by
      rw [hX i hi]
      unfold pnP
      by_cases z : i = 8 * y + x
      · subst z
        rw [hac, hpi, hb, show (8 * y + x) / 8 = y by omega, show (8 * y + x) % 8 = x by omega]
        simp
      · rw [decide_eq_false z, Bool.false_and, Bool.or_false]
        congr 2
        by_cases z2 : i / 8 = y
        · rw [decide_eq_true z2, Bool.true_and, Bool.true_and]
          congr 1
          rw [decide_eq_decide]
          omega
        · rw [decide_eq_false z2]
          rfl)
    refine T_X11_planned_20 ⟨fun h => ?_, fun _ => ?_⟩
    · rw [hR.1.1, nI_leI (by omega) (by omega)] at h
      omega
    · rw [hR.1.1, e, e8, nI_clamp (show g + (y * aW A + x) < 2 ^ 31 by omega), lg_cmp_0]
      refine ⟨nI_in (by omega) (by omega), fun h => ?_, fun h => ?_⟩
      · rw [decide_eq_false h] at hfx
        rw [← nI_succ]
        have e9 := step true hfx (zset (pnP A f y x) 64) (fun i hi => by rw [tb_set hi]; simp)
        rw [e9]
        exact ih (x + 1) (by omega)
      · rw [decide_eq_true h] at hfx
        rw [← nI_succ]
        have e9 := step false hfx (zset (pnP A f y x) 64 ||| zlshl 1 (nI (8 * y + x))) (fun i hi => by rw [tb_or, tb_set hi, tb_bit (by omega)]; simp)
        rw [e9]
        exact ih (x + 1) (by omega)
theorem L_X11_planned5 (hW : zWf A) (hR : zRD A σ 0) {f : Nat → Bool} {k g : Nat} (hg : g + aW A * aH A ≤ 64) (hf : ∀ x, x < aW A * aH A → f x = !decide (zgl σ 53 k (g + x) = 0)) (hQ : Q (some (.inr (.inl (zset (afree (aPlan A f)) 64)))) σ) : ∀ (n y : Nat), y + n = aH A → zE true (d + 2) kc ks M_X11_planned 5 [some (.inr (.inr (6, 0))), some (.inr (.inr (15, k))), some (.inl (nI g)), some (.inr (.inl (zset (pnP A f y 0) 64))), none, some (.inl (nI y)), none] [] σ Q := by
  have w := hW.1
  intro n
  induction n with
  | zero =>
    intro y hy
    have : y = aH A := by omega
    subst this
    refine T_X11_planned_5 ⟨fun _ => ?_, fun h => absurd (by rw [hR.1.2.1]; exact Int32.le_refl _) h⟩
    rw [zset_cong (q := afree (aPlan A f)) (fun c hc => ?_)]
    · exact hQ
    · unfold pnP afree
      rw [pl_wall]
      show _ = (acell A c && _)
      by_cases z : acell A c = true
      · rw [if_pos z]
        have z2 : c / 8 < aH A := by
          simp only [acell, Bool.and_eq_true, decide_eq_true_eq] at z
          exact z.2
        rw [decide_eq_true z2, Bool.true_or, Bool.and_true]
      · rw [Bool.not_eq_true] at z
        rw [z]
        rfl
  | succ n ih =>
    intro y hy
    refine T_X11_planned_5 ⟨fun h => ?_, fun _ => L_X11_planned20 hW hR hg hf (by omega) (ih (y + 1) (by omega)) (aW A) 0 (by omega)⟩
    rw [hR.1.2.1, nI_leI (by omega) (by omega)] at h
    omega
theorem S_X11_planned {K : Int64 → zSt → Prop} (hW : zWf A) (hR : zRD A σ 0) {f : Nat → Bool} {k g : Nat} (hg : g + aW A * aH A ≤ 64) (hf : ∀ x, x < aW A * aH A → f x = !decide (zgl σ 53 k (g + x) = 0)) (hK : K (zset (afree (aPlan A f)) 64) σ) : zCl true (d + 2) 0 0 M_X11_planned [.inr (.inr (6, 0)), .inr (.inr (15, k)), .inl (nI g)] σ K := by
  refine zC_intro pl_X11 (Nat.le_of_ble_eq_true rfl) (T_X11_planned_0 ?_)
  have e : (0 : Int64) = zset (pnP A f 0 0) 64 := zset_eq (fun i hi => by
    rw [tb_0]
    unfold pnP
    rw [decide_eq_false (Nat.not_lt_zero _), decide_eq_false (Nat.not_lt_zero _)]
    simp)
  have := L_X11_planned5 (d := d) (kc := 0) (ks := 0) (Q := fun r σ' => ∃ x, r = some (.inr (.inl x)) ∧ K x σ') hW hR hg hf ⟨_, rfl, hK⟩ (aH A) 0 (by omega)
  rw [← e] at this
  exact this
theorem anAt_cell (hW : zWf A) {c : Nat} (h : anAt A c = true) : acell A c = true := by
  unfold anAt at h
  rw [aAny_iff] at h
  obtain ⟨t, ht, h2⟩ := h
  simp only [Bool.and_eq_true, decide_eq_true_eq] at h2
  obtain ⟨e, he, hf⟩ := (hW.2.1 t ht).2.1 h2.1
  have : e = c := by have := h2.2; omega
  subst this
  unfold afree at hf
  simp only [Bool.and_eq_true] at hf
  exact hf.1
theorem O_X11_plan {K : Int32 → zSt → Prop} (hW : zWf A) (hR : zRD A σ 0) (hB : zWs B) (hS : zSD B σ) (a l i : Int32) (hno : ¬ shI a → K (-1) (zsi σ 6 0 15 0)) (hout : shI a → ¬ shI l → K (-2) (zsi σ 6 0 15 0)) (hcast : ∀ k, k < 4 → a = nI k → shI l → 0 ≤ B.1 k → B.2.1 k ≠ l.toInt → K (-12) (zsi (zsi σ 6 0 15 0) 6 0 15 2)) (hnull : ∀ k, k < 4 → a = nI k → shI l → B.1 k < 0 → K (-11) (zsi (zsi σ 6 0 15 0) 6 0 15 1))
    (hidx : ∀ k, k < 4 → a = nI k → shI l → 0 ≤ B.1 k → B.2.1 k = l.toInt → ¬ sRe (B.1 k) i.toInt (aW A * aH A : Nat) → K (-13) (zsi (zsi σ 6 0 15 0) 6 0 15 3))
    (hst : ∀ k g : Nat, k < 4 → a = nI k → shI l → 0 ≤ B.1 k → B.2.1 k = l.toInt → i = nI g → (g + aW A * aH A : Int) ≤ B.1 k → plB A (fun x => !decide (B.2.2 k (g + x) = 0)) = true → K (-3) (zsi σ 6 0 15 0))
    (hyes : ∀ k g : Nat, k < 4 → a = nI k → shI l → 0 ≤ B.1 k → B.2.1 k = l.toInt → i = nI g → (g + aW A * aH A : Int) ≤ B.1 k → plB A (fun x => !decide (B.2.2 k (g + x) = 0)) = false → ∀ σ', zRD (aPlan A (fun x => !decide (B.2.2 k (g + x) = 0))) σ' 0 → zForg σ' → zgl σ' 9 0 3 = 0 → zOnly (fun c j k => zQfd c j k ∨ (c = 6 ∧ k = 15)) σ σ' → σ'.2.2.2 = σ.2.2.2 → zgi σ' 6 0 15 = 0 → K (nI (fb_ct (afree (aPlan A (fun x => !decide (B.2.2 k (g + x) = 0)))) 64)) σ') : zCi true (d + 4) 0 0 M_X11_plan [.inr (.inr (6, 0)), .inl (a), .inl (l), .inl (i)] σ K := by
  have w := hW.1
  have wh := wh64 hW
  refine zC_intro pl_X11 (Nat.le_of_ble_eq_true rfl) (T_X11_plan_0 (S_X11_refusalOfRow hB hS a l (fun h => ⟨fun q => absurd q (by decide), fun _ => ⟨_, rfl, hno h⟩⟩) (fun h h2 => ⟨fun q => absurd q (by decide), fun _ => ⟨_, rfl, hout h h2⟩⟩) (fun k hk e h2 h0 h3 => ⟨fun q => absurd q (by decide), fun _ => ⟨_, rfl, hcast k hk e h2 h0 h3⟩⟩) (fun k hk e h2 h0 => ⟨fun q => absurd q (by decide), fun _ => ⟨_, rfl, hnull k hk e h2 h0⟩⟩) (fun k hk e h2 h0 h3 => ⟨fun _ => ?_, fun q => absurd rfl q⟩)))
  subst e
  have i4 : vp_in (nI k) 4 := nI_in (by omega) (by omega)
  have o0 : zOnly z615 σ (zsi σ 6 0 15 0) := zOnly.si ⟨rfl, rfl⟩
  have hR0 : zRD A (zsi σ 6 0 15 0) 0 := hR.only o0 rfl (fun c j k h => by unfold zBD at h; omega)
  have f0 : zgi (zsi σ 6 0 15 0) 6 0 15 = 0 := by rw [zgi_si, if_pos ⟨rfl, rfl, rfl⟩]
  have hS0 : zSD B (zsi σ 6 0 15 0) := hS.f
  have eL : sLn B k = B.1 k := by unfold sLn; rw [if_neg (by omega)]
  rw [nI_clamp (show k < 2 ^ 31 by omega), hR0.1.1, hR0.1.2.1, nI_mul]
  have hzz : (zsi σ 6 0 15 0).2.2.2 = σ.2.2.2 := rfl
  generalize zsi σ 6 0 15 0 = σ0 at o0 hR0 hS0 f0 hst hidx hzz ⊢
  refine ⟨i4, S_X8_reaches hB hS0 hk i (nI (aW A * aH A)) ⟨fun g2 => ?_, fun g2 => S_X11_faulty _ ⟨_, rfl, ?_⟩⟩⟩
  · rw [zb_0, Decidable.not_not, eL, nI_toInt (by omega)] at g2
    have hr := ws_rng hB hk
    unfold sRe at g2
    obtain ⟨g, hg, rfl⟩ : ∃ g : Nat, g ≤ 64 ∧ i = nI g := ⟨i.toInt.toNat, by omega, zI_of g2.1⟩
    rw [nI_toInt (by omega)] at g2
    have hgi : (g + aW A * aH A : Int) ≤ B.1 k := by omega
    have hgn : g + aW A * aH A ≤ 64 := by omega
    refine S_X11_planned hW hR0 hgn (f := fun x => !decide (B.2.2 k (g + x) = 0)) (fun x hx => ?_) (S_X1_anchorCells hW hR0 ?_)
    · show (!decide (B.2.2 k (g + x) = 0)) = _
      rw [(hS0 k hk).2.2 (g + x) (by omega)]
    have hst' := hst k g hk rfl h2 h0 h3 rfl hgi
    have hyes' := hyes k g hk rfl h2 h0 h3 rfl hgi
    generalize (fun x => !decide (B.2.2 k (g + x) = 0)) = f at hst' hyes' ⊢
    have cz : lg_cmp (zset (anC A (aN A)) 64 &&& (zset (afree (aPlan A f)) 64 ^^^ (-1))) 0 = 0 ↔ plB A f = false := by
      rw [lg_cmp_0, tb_ext_iff]
      have pt : ∀ c, c < 64 → tb (zset (anC A (aN A)) 64 &&& (zset (afree (aPlan A f)) 64 ^^^ (-1))) c = (acell A c && f (pIx A c) && anAt A c) := fun c hc => by
        rw [tb_and, tb_not _ hc, tb_set hc, tb_set hc, show anC A (aN A) c = anAt A c from rfl]
        by_cases z : anAt A c = true
        · have zc := anAt_cell hW z
          have e2 : afree (aPlan A f) c = !f (pIx A c) := by
            unfold afree
            rw [pl_wall, if_pos zc]
            show (acell A c && _) = _
            rw [zc, Bool.true_and]
          rw [z, zc, e2]
          simp
        · rw [Bool.not_eq_true] at z
          rw [z]
          simp
      constructor
      · intro q
        rw [← Bool.not_eq_true]
        unfold plB
        rw [aAny_iff]
        rintro ⟨c, hc, h⟩
        have := q c hc
        rw [pt c hc, h] at this
        exact absurd this (by decide)
      · intro q c hc
        rw [pt c hc, ← Bool.not_eq_true]
        intro h
        rw [← Bool.not_eq_true] at q
        unfold plB at q
        rw [aAny_iff] at q
        exact q ⟨c, hc, h⟩
    rw [cz]
    refine ⟨fun g3 => S_X11_wallsChanged (fun σ' o1 f1 s1 h1 => ⟨_, rfl, ?_⟩), fun g3 => ⟨_, rfl, hst' (by rw [Bool.not_eq_false] at g3; exact g3)⟩⟩
    rw [zbc64_ct, fb_ct_cong (q := afree (aPlan A f)) (fun i hi => tb_set hi)]
    have o2 : zOnly (fun c j k => (c = 7 ∧ j = 0 ∧ k = 2) ∨ zCh c k ∨ c = 9 ∧ k = 3) σ0 σ' := (zOnly.sl (Or.inl ⟨rfl, rfl, rfl⟩)).tr (o1.mono (fun c j k h => Or.inr h))
    have e2 : zgl σ' 7 0 2 = zset (afree (aPlan A f)) 64 := by
      rw [o1.l 7 0 2 (by unfold zCh; omega), zgl_sl, if_pos ⟨rfl, rfl, rfl⟩]
    have hh : σ'.2.2.2 = σ0.2.2.2 := h1
    refine hyes' g3 σ' ?_ f1 s1 ((o0.mono (fun c j k h => Or.inr h)).tr (o2.mono (fun c j k h => Or.inl (by unfold zQfd; unfold zCh at h ⊢; omega)))) (h1.trans ?_) (by rw [o2.i 6 0 15 (by unfold zCh; omega)]; exact f0)
    · obtain ⟨⟨a1, a2, a3, a4, a5, a6, a7, a8, a9⟩, g2, g3, g4⟩ := hR0.backV o2 (fun c j k hbd q => by unfold zBD at hbd; unfold zCh at q; omega) hh
      exact ⟨⟨a1, a2, e2, a4, a5, a6, a7, a8, a9⟩, g2, g3, g4⟩
    · exact hzz
  · rw [zb_0, eL, nI_toInt (by omega)] at g2
    exact hidx k hk rfl h2 h0 h3 g2
end zFw
