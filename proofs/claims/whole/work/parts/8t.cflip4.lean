/-! flips (class): about some joints -/
section zCq
variable {d kc ks : Nat} {σ : zSt} {A : zAb} {Q : Option zV → zSt → Prop}
def zKc (A : zAb) (σ : zSt) (x : zFl4) : Prop := zgi σ 12 0 6 = nI x.1 ∧ zgi σ 12 0 7 = iI (if 0 ≤ x.2.1 then x.2.1 else -9) ∧ zgi σ 12 0 8 = nI x.2.2.2 ∧ zgi σ 12 0 9 = yset x.2.2.1 32 ∧ ∀ t, x.2.2.1 t = true → zgi σ 50 0 t = iI (tnT A x.1 x.2.2.2 t)
/-- flips come to so far: the wanted one reached, or not yet -/
def zFc (A : zAb) (σ : zSt) (L : List zFl4) (w : Int32) : Prop := zgi σ 12 0 3 = w ∧ ((zgi σ 12 0 4 = 0 ∧ zgi σ 12 0 5 = nI L.length ∧ ∀ i, i < L.length → ¬ w = nI i) ∨ (zgi σ 12 0 4 = 1 ∧ ∃ i x, L[i]? = some x ∧ w = nI i ∧ zKc A σ x))
theorem zFc.app {L : List zFl4} {w : Int32} (h : zFc A σ L w) (hr : ¬ zgi σ 12 0 4 = 0) (M : List zFl4) : zFc A σ (L ++ M) w := by
  refine ⟨h.1, Or.inr ?_⟩
  rcases h.2 with q | ⟨q, i, x, h1, h2, h3⟩
  · exact absurd q.1 hr
  · refine ⟨q, i, x, ?_, h2, h3⟩
    have hl : i < L.length := by
      by_cases z : i < L.length
      · exact z
      · rw [List.getElem?_eq_none (by omega)] at h1
        cases h1
    rw [List.getElem?_append_left hl]
    exact h1
theorem zFc.of50 {σ' : zSt} {L : List zFl4} {w : Int32} (h : zFc A σ L w) (ho : zOnly z50 σ σ') (hr : zgi σ 12 0 4 = 0) : zFc A σ' L w := by
  refine ⟨by rw [ho.i 12 0 3 (by omega)]; exact h.1, Or.inl ?_⟩
  rcases h.2 with q | ⟨q, _⟩
  · exact ⟨by rw [ho.i 12 0 4 (by omega)]; exact q.1, by rw [ho.i 12 0 5 (by omega)]; exact q.2.1, q.2.2⟩
  · rw [hr] at q
    exact absurd q (by decide)
abbrev zQcc (c _j k : Nat) : Prop := c = 50 ∨ (c = 12 ∧ 4 ≤ k ∧ k ≤ 9)
theorem zXT.only {σ' : zSt} {M : Nat → Nat → Nat → Prop} (h : zXT σ) (ho : zOnly M σ σ') (hm : ∀ c k, 2 ≤ c → c ≤ 5 → ¬ M c 0 k) : zXT σ' := fun k hk => by
  obtain ⟨a1, a2, a3, a4⟩ := h k hk
  exact ⟨by rw [ho.i 2 0 k (hm 2 k (by omega) (by omega))]; exact a1, by rw [ho.i 3 0 k (hm 3 k (by omega) (by omega))]; exact a2, by rw [ho.i 4 0 k (hm 4 k (by omega) (by omega))]; exact a3, by rw [ho.i 5 0 k (hm 5 k (by omega) (by omega))]; exact a4⟩
/-- what stands while flips are sought -/
def zHf (A : zAb) (σ : zSt) : Prop := zRD A σ 0 ∧ zGr σ ∧ (∀ m, m < aM A → zSp A σ m) ∧ zXT σ ∧ zLk A σ
theorem zHf.only {σ' : zSt} (h : zHf A σ) (ho : zOnly zQcc σ σ') (hh : σ'.2.2.2 = σ.2.2.2) : zHf A σ' := ⟨h.1.only ho hh (fun c j k h => by unfold zBD at h; unfold zQcc; omega), h.2.1.only ho (fun j k => by unfold zQcc; omega), fun m hm => (h.2.2.1 m hm).only ho (fun j k => by unfold zQcc; omega), h.2.2.2.1.only ho (fun c k h1 h2 => by unfold zQcc; omega), fun t ht => by rw [ho.i 30 0 t (by unfold zQcc; omega)]; exact h.2.2.2.2 t ht⟩
theorem S_X2_comeTo {ph : Bool} {K : zSt → Prop} {L : List zFl4} {w : Int32} {p : Nat → Bool} {j k : Nat} {b : Int} (hL : L.length < 2 ^ 30) (h : zFc A σ L w) (hr : zgi σ 12 0 4 = 0) (h50 : ∀ t, p t = true → zgi σ 50 0 t = iI (tnT A j k t)) (hK : ∀ σ', zOnly zQcc σ σ' → σ'.2.2.2 = σ.2.2.2 → zFc A σ' (L ++ [(j, b, p, k)]) w → K σ') : zCv ph (d + 1) 0 0 M_X2_comeTo [.inr (.inr (12, 0)), .inl (nI k), .inl (nI j), .inl (iI (if 0 ≤ b then b else -9)), .inl (yset p 32)] σ K := by
  obtain ⟨h1, h2⟩ := h
  have q : zgi σ 12 0 4 = 0 ∧ zgi σ 12 0 5 = nI L.length ∧ ∀ i, i < L.length → ¬ w = nI i := by
    rcases h2 with q | ⟨q, _⟩
    · exact q
    · rw [hr] at q
      exact absurd q (by decide)
  obtain ⟨q1, q2, q3⟩ := q
  refine zC_intro pl_X2 (Nat.le_of_ble_eq_true rfl) (T_X2_comeTo_0 ?_)
  rw [q2, h1]
  refine ⟨fun g => ⟨rfl, hK _ (zOnly.si (Or.inr ⟨rfl, by omega, by omega⟩)) rfl ⟨by rw [zgi_si, if_neg (by omega)]; exact h1, Or.inl ⟨by rw [zgi_si, if_neg (by omega)]; exact q1, ?_, fun i hi => ?_⟩⟩⟩, fun g => ⟨rfl, hK _ (((((zOnly.si (Or.inr ⟨rfl, by omega, by omega⟩)).tr (zOnly.si (Or.inr ⟨rfl, by omega, by omega⟩))).tr (zOnly.si (Or.inr ⟨rfl, by omega, by omega⟩))).tr (zOnly.si (Or.inr ⟨rfl, by omega, by omega⟩))).tr (zOnly.si (Or.inr ⟨rfl, by omega, by omega⟩))) rfl ⟨by simp [zgi_si, h1], Or.inr ⟨by simp [zgi_si], L.length, (j, b, p, k), ?_, g.symm, ?_⟩⟩⟩⟩
  · rw [zgi_si, if_pos ⟨rfl, rfl, rfl⟩, ← nI_succ, List.length_append, List.length_singleton]
  · rw [List.length_append, List.length_singleton] at hi
    by_cases e : i = L.length
    · subst e
      exact fun z => g z.symm
    · exact q3 i (by omega)
  · rw [List.getElem?_append_right (Nat.le_refl _), Nat.sub_self]
    rfl
  · refine ⟨by simp [zgi_si], by simp [zgi_si], by simp [zgi_si], by simp [zgi_si], fun t ht => ?_⟩
    have := h50 t ht
    simpa [zgi_si] using this
theorem L_X2_about92 {σ0 : zSt} (hW : zWf A) (hV : zHf A σ0) {p w' : Nat → Bool} {j cnt : Nat} {b : Int} {w v4 : Int32} {LT : List zFl4} (hj : j < aN A) (hmj : 0 ≤ aMp A j) (hb : -1 ≤ b ∧ b < aN A) (hmb : 0 ≤ b → 0 ≤ aMp A b.toNat) (hp : ∀ t, p t = true → t < aN A ∧ 0 ≤ aMp A t) (hg : hgB A p j b = true) (hB : LT.length < 2 ^ 30) (hnext : ∀ σ', zOnly zQcc σ0 σ' → σ'.2.2.2 = σ0.2.2.2 → zFc A σ' LT w → zE true (d + 5) kc ks M_X2_seekAbout 30 [some (.inr (.inr (12, 0))), none, some (.inl (nI j)), some (.inl (iI (if 0 ≤ b then b else -9))), some (.inl (v4)), some (.inl (yset w' 32)), some (.inl ((nI cnt + 1))), none, none, none] [] (σ') Q) : ∀ (r k : Nat), k + r = 8 → 1 ≤ k → ∀ (σ : zSt) (L : List zFl4), zOnly zQcc σ0 σ → σ.2.2.2 = σ0.2.2.2 → zFc A σ L w → L ++ flK A p j b r k = LT → zE true (d + 5) kc ks M_X2_seekAbout 92 [some (.inr (.inr (12, 0))), none, some (.inl (nI j)), some (.inl (iI (if 0 ≤ b then b else -9))), some (.inl (v4)), some (.inl (yset w' 32)), some (.inl (nI cnt)), some (.inl (yset p 32)), some (.inl (1)), some (.inl (nI k))] [] σ Q := by
  intro r
  induction r with
  | zero =>
    intro k hk h1 σ L ho hh hF hLT
    have : k = 8 := by omega
    subst this
    have e : L = LT := by rw [← hLT]; unfold flK; rw [List.append_nil]
    subst e
    exact T_X2_seekAbout_92 ⟨fun _ => hnext σ ho hh hF, fun g => absurd (Or.inl (show (8 : Int32) ≤ nI 8 by decide)) g⟩
  | succ r ih =>
    intro k hk h1 σ L ho hh hF hLT
    obtain ⟨hR1, hG1, hS1, hX1, hL1⟩ := hV.only ho hh
    have hlen : L.length ≤ LT.length := by rw [← hLT, List.length_append]; omega
    by_cases hr : zgi σ 12 0 4 = 0
    · refine T_X2_seekAbout_92 ⟨fun g => ?_, fun _ => S_X2_leaves hW hR1 hX1 (by omega) hj hmj hb hmb ?_⟩
      · exfalso
        rw [show (8 : Int32) = nI 8 from rfl, nI_leI (by omega) (by omega)] at g
        rcases g with g | g | g
        · omega
        · exact absurd g (by decide)
        · exact g hr
      · rw [zb_0]
        unfold flK at hLT
        have skip : ∀ σ', zOnly z50 σ σ' → σ'.2.2.2 = σ.2.2.2 → ¬ (mv1 A j b k = true ∧ cnB A p j k = true) → zE true (d + 5) kc ks M_X2_seekAbout 92 [some (.inr (.inr (12, 0))), none, some (.inl (nI j)), some (.inl (iI (if 0 ≤ b then b else -9))), some (.inl (v4)), some (.inl (yset w' 32)), some (.inl (nI cnt)), some (.inl (yset p 32)), some (.inl (1)), some (.inl ((nI k + 1)))] [] (σ') Q := fun σ' o1 h2 hn => by
          rw [← nI_succ]
          rw [if_neg (fun q => hn (mvN_pos.mp q)), List.nil_append] at hLT
          exact ih (k + 1) (by omega) (by omega) σ' L (ho.tr (o1.mono (fun c j k h => Or.inl h))) (h2.trans hh) (hF.of50 o1 hr) hLT
        refine ⟨fun g => skip σ zOnly.rf rfl (fun q => g q.1), fun g => S_X2_canTurn (b := b) hW hR1 hG1 hS1 hX1 (by omega) hj hp hmj hmb hg (fun σ1 o1 h2 z50' => ?_)⟩
        rw [zb_0]
        refine ⟨fun g2 => skip σ1 o1 h2 (fun q => g2 q.2), fun g2 => ?_⟩
        have c1 := Decidable.not_not.mp g2
        have m1 := Decidable.not_not.mp g
        rw [if_pos (mvN_pos.mpr ⟨m1, c1⟩), ← List.append_assoc] at hLT
        refine S_X2_comeTo (A := A) (L := L) (w := w) (by omega) (hF.of50 o1 hr) (by rw [o1.i 12 0 4 (by omega)]; exact hr) (z50' c1) (fun σ2 o2 h3 f2 => ?_)
        rw [← nI_succ]
        exact ih (k + 1) (by omega) (by omega) σ2 _ ((ho.tr (o1.mono (fun c j k h => Or.inl h))).tr o2) ((h3.trans h2).trans hh) f2 hLT
    · refine T_X2_seekAbout_92 ⟨fun _ => hnext σ ho hh ?_, fun g => absurd (Or.inr (Or.inr hr)) g⟩
      rw [← hLT]
      exact hF.app hr _
/-- classes of a set without some whole classes of it -/
theorem ptB_rest {A : zAb} {w w' : Nat → Bool} {t : Nat} (ht : w' t = true) (hs : ∀ u, w' u = true → w u = true) (hcl : ∀ u v, w' u = true → lkP A (fun x => w x = true) u v → w' v = true) : ptB A w' t = ptB A w t := funext (fun u => Bool.eq_iff_iff.mpr (by
  rw [ptB_iff, ptB_iff]
  constructor
  · exact fun h => h.sub (fun x y ⟨m, m1, m2, m3, m4, m5⟩ => ⟨m, m1, m2, hs _ m3, hs _ m4, m5⟩)
  · intro h
    have := h (fun x => w' x = true ∧ zCls (lkP A (fun x => w' x = true)) t x) ⟨ht, zCls.rf⟩ (fun x y hx hr => by
      have hy := hcl x y hx.1 hr
      refine ⟨hy, hx.2.st ?_⟩
      obtain ⟨m, m1, m2, m3, m4, m5⟩ := hr
      rcases m5 with ⟨rfl, rfl⟩ | ⟨rfl, rfl⟩
      · exact ⟨m, m1, m2, hx.1, hy, Or.inl ⟨rfl, rfl⟩⟩
      · exact ⟨m, m1, m2, hy, hx.1, Or.inr ⟨rfl, rfl⟩⟩)
    exact this.2))
end zCq
