/-! boxes, a new field (class) -/
section zCl2
variable {d kc ks : Nat} {σ : zSt} {A : zAb} {Q : Option zV → zSt → Prop}
def bxC (x1 y1 x2 y2 c : Nat) : Bool := decide (x1 ≤ c % 8) && decide (c % 8 ≤ x2) && decide (y1 ≤ c / 8) && decide (c / 8 ≤ y2)
/-- rows below y whole, and of y the cells left of x -/
def bxP (x1 y1 x2 y x c : Nat) : Bool := (decide (x1 ≤ c % 8) && decide (c % 8 ≤ x2) && decide (y1 ≤ c / 8) && decide (c / 8 < y)) || (decide (c / 8 = y) && decide (x1 ≤ c % 8) && decide (c % 8 < x))
theorem bxP_row {x1 y1 x2 y : Nat} (h : y1 ≤ y) (c : Nat) : bxP x1 y1 x2 y (x2 + 1) c = bxP x1 y1 x2 (y + 1) x1 c := by
  rw [Bool.eq_iff_iff]
  unfold bxP
  simp only [Bool.or_eq_true, Bool.and_eq_true, decide_eq_true_eq]
  omega
theorem L_X11_box15 {ph : Bool} {x1 y1 x2 y2 y : Nat} (hx2 : x2 ≤ 7) (hy : y ≤ 7) (hyy : y1 ≤ y) (hnext : zE ph (d + 2) kc ks M_X11_boxed 6 [some (.inl (nI x1)), none, some (.inl (nI x2)), some (.inl (nI y2)), some (.inr (.inl (zset (bxP x1 y1 x2 (y + 1) x1) 64))), none, some (.inl ((nI y + 1))), none] [] σ Q) : ∀ (n x : Nat), x + n = x2 + 1 → x1 ≤ x → zE ph (d + 2) kc ks M_X11_boxed 15 [some (.inl (nI x1)), none, some (.inl (nI x2)), some (.inl (nI y2)), some (.inr (.inl (zset (bxP x1 y1 x2 y x) 64))), none, some (.inl (nI y)), some (.inl (nI x))] [] σ Q := by
  intro n
  induction n with
  | zero =>
    intro x hx hxx
    have : x = x2 + 1 := by omega
    subst this
    refine T_X11_boxed_15 ⟨fun _ => ?_, fun g => absurd ?_ g⟩
    · rw [zset_cong (fun c _ => bxP_row hyy c)]
      exact hnext
    · rw [nI_ltI (by omega) (by omega)]; omega
  | succ n ih =>
    intro x hx hxx
    refine T_X11_boxed_15 ⟨fun g => ?_, fun _ => ?_⟩
    · rw [nI_ltI (by omega) (by omega)] at g
      omega
    · have e : zset (bxP x1 y1 x2 y x) 64 ||| zlshl 1 ((8 : Int32) * nI y + nI x) = zset (bxP x1 y1 x2 y (x + 1)) 64 := by
        rw [show (8 : Int32) = nI 8 from rfl, nI_mul, nI_add]
        refine zset_eq (fun i hi => ?_)
        rw [tb_or, tb_set hi, tb_bit (by omega), Bool.eq_iff_iff]
        unfold bxP
        simp only [Bool.or_eq_true, Bool.and_eq_true, decide_eq_true_eq]
        omega
      rw [e, ← nI_succ]
      exact ih (x + 1) (by omega) (by omega)
theorem L_X11_box6 {ph : Bool} {x1 y1 x2 y2 : Nat} (hx1 : x1 ≤ 7) (hx2 : x2 ≤ 7) (hxx : x1 ≤ x2 + 1) (hy2 : y2 ≤ 7) (hQ : Q (some (.inr (.inl (zset (bxC x1 y1 x2 y2) 64)))) σ) : ∀ (n y : Nat), y + n = y2 + 1 → y1 ≤ y → zE ph (d + 2) kc ks M_X11_boxed 6 [some (.inl (nI x1)), none, some (.inl (nI x2)), some (.inl (nI y2)), some (.inr (.inl (zset (bxP x1 y1 x2 y x1) 64))), none, some (.inl (nI y)), none] [] σ Q := by
  intro n
  induction n with
  | zero =>
    intro y hy hyy
    have : y = y2 + 1 := by omega
    subst this
    refine T_X11_boxed_6 ⟨fun _ => ?_, fun g => absurd ?_ g⟩
    · rw [zset_cong (q := bxC x1 y1 x2 y2) (fun c _ => by
        rw [Bool.eq_iff_iff]
        unfold bxP bxC
        simp only [Bool.or_eq_true, Bool.and_eq_true, decide_eq_true_eq]
        omega)]
      exact hQ
    · rw [nI_ltI (by omega) (by omega)]; omega
  | succ n ih =>
    intro y hy hyy
    refine T_X11_boxed_6 ⟨fun g => ?_, fun _ => ?_⟩
    · rw [nI_ltI (by omega) (by omega)] at g
      omega
    · exact L_X11_box15 hx2 (by omega) hyy (by rw [← nI_succ]; exact ih (y + 1) (by omega) (by omega)) (x2 + 1 - x1) x1 (by omega) (Nat.le_refl _)
theorem S_X11_boxed {ph : Bool} {K : Int64 → zSt → Prop} {x1 y1 x2 y2 : Nat} (hx1 : x1 ≤ x2) (hx2 : x2 ≤ 7) (hy1 : y1 ≤ y2) (hy2 : y2 ≤ 7) (hK : K (zset (bxC x1 y1 x2 y2) 64) σ) : zCl ph (d + 2) 0 0 M_X11_boxed [.inl (nI x1), .inl (nI y1), .inl (nI x2), .inl (nI y2)] σ K := by
  refine zC_intro pl_X11 (Nat.le_of_ble_eq_true rfl) (T_X11_boxed_0 ?_)
  have e : (0 : Int64) = zset (bxP x1 y1 x2 y1 x1) 64 := zset_eq (fun i hi => by
    rw [tb_0]
    symm
    rw [Bool.eq_false_iff]
    unfold bxP
    simp only [ne_eq, Bool.or_eq_true, Bool.and_eq_true, decide_eq_true_eq]
    omega)
  rw [e]
  exact L_X11_box6 (Q := fun r σ' => ∃ x, r = some (.inr (.inl x)) ∧ K x σ') (by omega) hx2 (by omega) hy2 ⟨_, rfl, hK⟩ (y2 + 1 - y1) y1 (by omega) (Nat.le_refl _)
theorem S_X11_isSpan {ph : Bool} {K : Int32 → zSt → Prop} (a b : Int32) (hK : K (zb ((0 ≤ a.toInt ∧ a.toInt ≤ 7) ∧ a.toInt ≤ b.toInt ∧ b.toInt ≤ 7)) σ) : zCi ph (d + 2) 0 0 M_X11_isSpan [.inl (a), .inl (b)] σ K := by
  refine zC_intro pl_X11 (Nat.le_of_ble_eq_true rfl) (T_X11_isSpan_0 (fun x hx => ⟨_, rfl, ?_⟩))
  have ca : (0 ≤ a ∧ a ≤ 7) ↔ (0 ≤ a.toInt ∧ a.toInt ≤ 7) := zin_k a (l := 0) (h := 7) (by omega) (by omega)
  have cb : (0 ≤ b ∧ b ≤ 7) ↔ (0 ≤ b.toInt ∧ b.toInt ≤ 7) := zin_k b (l := 0) (h := 7) (by omega) (by omega)
  have ex : x = zb ((0 ≤ a.toInt ∧ a.toInt ≤ 7) ∧ a.toInt ≤ b.toInt ∧ b.toInt ≤ 7) := by
    rw [hx]
    apply zb_of0
    rw [zb_0, zb_0, ca, cb, fa_lt]
    omega
  rw [ex]
  exact hK
theorem O_X11_box {K : Int32 → zSt → Prop} (hW : zWf A) (hR : zRD A σ 0) (a b c e f : Int32) (hno : ¬ tI A a = true → K (-1) σ) (hst : ∀ t, t < aN A → a = nI t → 0 < aK A t → K (-3) σ) (hout : ∀ t, t < aN A → a = nI t → aK A t = 0 → ¬ (spI b e ∧ spI c f) → K (-2) σ)
    (hyes : ∀ t x1 y1 x2 y2, t < aN A → a = nI t → aK A t = 0 → b = nI x1 → c = nI y1 → e = nI x2 → f = nI y2 → x1 ≤ x2 → x2 ≤ 7 → y1 ≤ y2 → y2 ≤ 7 → ∀ σ', zRD (aBox A t x1 y1 x2 y2) σ' 0 → zForg σ' → zOnly (fun c j k => (c = 24 ∧ j = 0) ∨ zCh c k) σ σ' → σ'.2.2.2 = σ.2.2.2 → K (nI (fb_ct (atold (aBox A t x1 y1 x2 y2) t) 64)) σ') : zCi true (d + 3) 0 0 M_X11_box [.inr (.inr (6, 0)), .inl (a), .inl (b), .inl (c), .inl (e), .inl (f)] σ K := by
  have hN : aN A ≤ 24 := hW.1.2.2.2.2.1
  refine zC_intro pl_X11 (Nat.le_of_ble_eq_true rfl) (T_X11_box_0 (S_X1_isThing hW hR a ⟨fun h => ?_, fun h => ⟨_, rfl, hno (zb_0.mp h)⟩⟩))
  rw [zb_0, Decidable.not_not] at h
  obtain ⟨t, ht, rfl⟩ := tI_nI h
  obtain ⟨⟨n0, q0, hT⟩, -⟩ := hR.2.1 t ht
  have ec : (nI t).toNatClampNeg = t := nI_clamp (by omega)
  refine ⟨nI_in (by omega) (by omega), n0, by rw [ec]; exact q0, S_X9_isAnchor hW ht hT ⟨fun g => S_X11_isSpan b e ⟨fun g2 => ⟨_, rfl, hout t ht rfl ?_ ?_⟩, fun g2 => S_X11_isSpan c f ⟨fun g3 => ?_, fun g3 => ⟨_, rfl, hout t ht rfl ?_ ?_⟩⟩⟩, fun g => ⟨_, rfl, hst t ht rfl ?_⟩⟩⟩
  · rw [zb_0] at g; omega
  · rw [zb_0] at g2
    exact fun q => g2 (by unfold spI at q; omega)
  · rw [zb_0] at g
    rw [zb_0, Decidable.not_not] at g2 g3
    obtain ⟨x1, rfl, l1⟩ : ∃ n : Nat, b = nI n ∧ n ≤ 7 := ⟨b.toInt.toNat, zI_of (by omega), by omega⟩
    obtain ⟨y1, rfl, l2⟩ : ∃ n : Nat, c = nI n ∧ n ≤ 7 := ⟨c.toInt.toNat, zI_of (by omega), by omega⟩
    obtain ⟨x2, rfl, l3⟩ : ∃ n : Nat, e = nI n ∧ n ≤ 7 := ⟨e.toInt.toNat, zI_of (by omega), by omega⟩
    obtain ⟨y2, rfl, l4⟩ : ∃ n : Nat, f = nI n ∧ n ≤ 7 := ⟨f.toInt.toNat, zI_of (by omega), by omega⟩
    rw [nI_toInt (by omega), nI_toInt (by omega)] at g2 g3
    refine S_X11_boxed (by omega) l3 (by omega) l4 ⟨nI_in (by omega) (by omega), ?_⟩
    rw [ec]
    refine S_X11_changed (fun σ1 o1 f1 h1 => ?_)
    have o0 : zOnly (fun c j k => (c = 24 ∧ j = 0) ∨ zCh c k) σ σ1 := (zOnly.sl (Or.inl ⟨rfl, rfl⟩)).tr (o1.mono (fun c j k h => Or.inr h))
    have hW2 : zWf (aBox A t x1 y1 x2 y2) := bx_wf hW ⟨by omega, l3⟩ ⟨by omega, l4⟩
    have hR2 : zRD (aBox A t x1 y1 x2 y2) σ1 0 := by
      have hR1 : zRD A (zsl σ1 24 0 t (zgl σ 24 0 t)) 0 := by
        refine hR.of (fun c => by unfold zcn; show _ ≤ (σ1.2.2.2.1 c); rw [h1]; exact Nat.le_refl _) (fun c j k hbd _ => ?_)
        by_cases z : c = 24 ∧ j = 0 ∧ k = t
        · obtain ⟨rfl, rfl, rfl⟩ := z
          refine ⟨?_, ?_, ?_⟩
          · rw [zgi_sl, o1.i 24 0 k (by unfold zCh; omega), zgi_sl]
          · rw [zgl_sl, if_pos ⟨rfl, rfl, rfl⟩]
          · show zgr σ1 24 0 k = _
            rw [o1.r 24 0 k (by unfold zCh; omega)]; rfl
        · have hz : ¬ zCh c k := fun q => by unfold zBD at hbd; unfold zCh at q; omega
          have := o1 c j k hz
          exact ⟨by rw [zgi_sl, this.1, zgi_sl], by rw [zgl_sl, if_neg z, this.2.1, zgl_sl, if_neg z], this.2.2⟩
      obtain ⟨g1, g2', g3', g4⟩ := hR1
      refine ⟨g1, fun u hu => ?_, fun m hm => ?_, fun v hv => ⟨(g4 v hv).1.trans (by unfold vF; rw [bx_ne (by omega)]), (g4 v hv).2.1.trans (by unfold vT; rw [bx_ne (by omega)]), (g4 v hv).2.2.trans (by unfold vR; rw [bx_ne (by omega)])⟩⟩
      · obtain ⟨⟨n, p1, p2⟩, p3, p4⟩ := g2' u hu
        refine ⟨⟨n, p1, ?_⟩, ?_, p4⟩
        · obtain ⟨r1, r2, r3, r4, r5, r6⟩ := p2
          exact ⟨r1, r2, r3.trans (by unfold aK; rw [bx_ne (by omega)]), r4, r5, r6⟩
        · by_cases z : u = t
          · subst z
            rw [o1.l 24 0 u (by unfold zCh; omega), zgl_sl, if_pos ⟨rfl, rfl, rfl⟩]
            refine zset_cong (fun c hc => ?_)
            unfold abox bxC aX1 aX2 aY1 aY2 aBox
            simp
          · rw [zgl_sl, if_neg (fun q => z q.2.2)] at p3
            rw [p3]
            refine zset_cong (fun c hc => ?_)
            unfold abox aX1 aX2 aY1 aY2
            rw [bx_ne (by omega), bx_ne (by omega), bx_ne (by omega), bx_ne (by omega)]
      · obtain ⟨n, p1, r1, r2, r3, r4, r5, r6, r7⟩ := g3' m hm
        refine ⟨n, p1, r1, r2, ?_, ?_, ?_, ?_, ?_⟩
        · exact r3.trans (by unfold mK; rw [bx_ne (by omega)])
        · exact r4.trans (by unfold mA; rw [bx_ne (by omega)])
        · exact r5.trans (by unfold mB; rw [bx_ne (by omega)])
        · exact r6.trans (by unfold mP; rw [bx_ne (by omega)])
        · exact r7.trans (by unfold mQ; rw [bx_ne (by omega)])
    refine S_X1_toldCells hW2 hR2 (show t < aN (aBox A t x1 y1 x2 y2) from ht) ⟨_, rfl, ?_⟩
    rw [zbc64_ct, fb_ct_cong (q := atold (aBox A t x1 y1 x2 y2) t) (fun i hi => tb_set hi)]
    exact hyes t x1 y1 x2 y2 ht rfl (by omega) rfl rfl rfl rfl (by omega) l3 (by omega) l4 σ1 hR2 f1 o0 h1
  · rw [zb_0] at g; omega
  · rw [zb_0] at g3
    exact fun q => g3 (by unfold spI at q; omega)
  · rw [zb_0, Decidable.not_not] at g
    exact g
end zCl2
