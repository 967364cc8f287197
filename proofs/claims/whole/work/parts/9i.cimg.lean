/-! measures by a sheet; images of the desk (class) -/
def zTyR (σ : zSt) : Prop := (∀ j k, (zgr σ 23 j k).1 = 0 ∨ (zgr σ 23 j k).1 = 16) ∧ ∀ j k, (zgr σ 26 j k).1 = 0 ∨ (zgr σ 26 j k).1 = 17
theorem zTyR.to {σ σ' : zSt} (h : zTyR σ) (t : zTyp σ σ') : zTyR σ' := by
  refine ⟨fun j k => ?_, fun j k => ?_⟩
  · rcases t.1 j k with q | q
    · rw [q]; exact h.1 j k
    · exact Or.inr q
  · rcases t.2 j k with q | q
    · rw [q]; exact h.2 j k
    · exact Or.inr q
theorem zTyR.only {σ σ' : zSt} {M : Nat → Nat → Nat → Prop} (h : zTyR σ) (ho : zOnly M σ σ') (hm : ∀ j k, ¬ M 23 j k ∧ ¬ M 26 j k) : zTyR σ' := h.to ⟨fun j k => Or.inl (ho.r 23 j k (hm j k).1), fun j k => Or.inl (ho.r 26 j k (hm j k).2)⟩
/-- a desk's places: of row j -/
def zDj (j c i : Nat) : Prop := c = 16 ∨ c = 17 ∨ ((c = 7 ∨ 23 ≤ c ∧ c ≤ 29) ∧ i = j)
/-- a desk (or an image) is like another -/
def zLike (σ σ' : zSt) (i j : Nat) : Prop := ((∀ k, (k = 0 ∨ k = 1 ∨ k = 3 ∨ k = 7 ∨ k = 8 ∨ k = 11 ∨ k = 15) → zgi σ' 7 j k = zgi σ 7 i k) ∧ ∀ k, (k = 2 ∨ k = 10) → zgl σ' 7 j k = zgl σ 7 i k) ∧ (∀ t, t < 24 → zgr σ' 23 j t = zgr σ 23 i t ∧ zgl σ' 24 j t = zgl σ 24 i t ∧ zgi σ' 25 j t = zgi σ 25 i t) ∧ (∀ m, m < 60 → zgr σ' 26 j m = zgr σ 26 i m) ∧ (∀ v, v < 3 → zgi σ' 27 j v = zgi σ 27 i v ∧ zgi σ' 28 j v = zgi σ 28 i v ∧ zgi σ' 29 j v = zgi σ 29 i v) ∧ (∀ c, zcn σ c ≤ zcn σ' c) ∧ ∀ c n k, (c = 16 ∨ c = 17) → n < zcn σ c → zgi σ' c n k = zgi σ c n k
theorem zRD.like {A : zAb} {σ σ' : zSt} {i j : Nat} (hW : zWf A) (h : zRD A σ i) (l : zLike σ σ' i j) : zRD A σ' j := by
  have hN : aN A ≤ 24 := hW.1.2.2.2.2.1
  have hM : aM A ≤ 60 := hW.1.2.2.2.2.2.1
  have hV : aV A ≤ 3 := hW.1.2.2.2.2.2.2
  obtain ⟨⟨a1, a2, a3, a4, a5, a6, a7, a8, a9⟩, h2, h3, h4⟩ := h
  obtain ⟨l1, l2, l3, l4, l5, l6⟩ := l
  refine ⟨⟨?_, ?_, ?_, ?_, ?_, ?_, ?_, ?_, ?_⟩, fun t ht => ?_, fun m hm => ?_, fun v hv => ?_⟩
  · rw [l1.1 0 (by omega)]; exact a1
  · rw [l1.1 1 (by omega)]; exact a2
  · rw [l1.2 2 (by omega)]; exact a3
  · rw [l1.1 3 (by omega)]; exact a4
  · rw [l1.1 7 (by omega)]; exact a5
  · rw [l1.1 8 (by omega)]; exact a6
  · rw [l1.2 10 (by omega)]; exact a7
  · rw [l1.1 11 (by omega)]; exact a8
  · rw [l1.1 15 (by omega)]; exact a9
  · obtain ⟨⟨n, q1, q2, q3, q4, q5, q6, q7⟩, q8, q9⟩ := h2 t ht
    obtain ⟨u1, u2, u3⟩ := l2 t (by omega)
    refine ⟨⟨n, ?_, Nat.lt_of_lt_of_le q2 (l5 16), ?_, ?_, ?_, ?_, ?_⟩, ?_, ?_⟩
    · rw [u1]; exact q1
    · rw [l6 16 n 0 (Or.inl rfl) q2]; exact q3
    · rw [l6 16 n 1 (Or.inl rfl) q2]; exact q4
    · rw [l6 16 n 2 (Or.inl rfl) q2]; exact q5
    · rw [l6 16 n 3 (Or.inl rfl) q2]; exact q6
    · rw [l6 16 n 4 (Or.inl rfl) q2]; exact q7
    · rw [u2]; exact q8
    · rw [u3]; exact q9
  · obtain ⟨n, q1, q2, q3, q4, q5, q6, q7, q8⟩ := h3 m hm
    refine ⟨n, ?_, Nat.lt_of_lt_of_le q2 (l5 17), ?_, ?_, ?_, ?_, ?_, ?_⟩
    · rw [l3 m (by omega)]; exact q1
    · rw [l6 17 n 0 (Or.inr rfl) q2]; exact q3
    · rw [l6 17 n 1 (Or.inr rfl) q2]; exact q4
    · rw [l6 17 n 2 (Or.inr rfl) q2]; exact q5
    · rw [l6 17 n 3 (Or.inr rfl) q2]; exact q6
    · rw [l6 17 n 4 (Or.inr rfl) q2]; exact q7
    · rw [l6 17 n 5 (Or.inr rfl) q2]; exact q8
  · obtain ⟨u1, u2, u3⟩ := l4 v (by omega)
    rw [u1, u2, u3]
    exact h4 v hv
/-- a desk stays, where its row stays -/
theorem zLike.of {σ σ' : zSt} {m : Nat → Nat → Nat → Prop} {j : Nat} (h : zOnly m σ σ') (hc : ∀ c, zcn σ c ≤ zcn σ' c) (hm : ∀ c k, (c = 7 ∨ 23 ≤ c ∧ c ≤ 29) → ¬ m c j k) (hm2 : ∀ c n k, (c = 16 ∨ c = 17) → n < zcn σ c → ¬ m c n k) : zLike σ σ' j j :=
  ⟨⟨fun k hk => h.i 7 j k (hm 7 k (by omega)), fun k hk => h.l 7 j k (hm 7 k (by omega))⟩, fun t ht => ⟨h.r 23 j t (hm 23 t (by omega)), h.l 24 j t (hm 24 t (by omega)), h.i 25 j t (hm 25 t (by omega))⟩, fun t ht => h.r 26 j t (hm 26 t (by omega)), fun v hv => ⟨h.i 27 j v (hm 27 v (by omega)), h.i 28 j v (hm 28 v (by omega)), h.i 29 j v (hm 29 v (by omega))⟩, hc, fun c n k hq hn => h.i c n k (hm2 c n k hq hn)⟩
def zID (I : Nat → Bool × zAb) (σ : zSt) : Prop := ∀ k, k < 2 → zgi σ 19 0 k = zb ((I k).1 = true) ∧ ((I k).1 = true → zRD (I k).2 σ (k + 1))
theorem zID.to {I : Nat → Bool × zAb} {σ σ' : zSt} {m : Nat → Nat → Nat → Prop} (hI : zID I σ) (hW : ∀ k, k < 2 → (I k).1 = true → zWf (I k).2) (h : zMad m σ σ') (hm : ∀ c k, ((c = 7 ∨ 23 ≤ c ∧ c ≤ 29) → ¬ m c 1 k ∧ ¬ m c 2 k) ∧ (c = 19 → ¬ m c 0 k)) (hm2 : ∀ c n k, (c = 16 ∨ c = 17) → ¬ m c n k) : zID I σ' := fun k hk => by
  obtain ⟨h1, h2⟩ := hI k hk
  refine ⟨?_, fun z => zRD.like (hW k hk z) (h2 z) (zLike.of h.1 h.2.1 (fun c x hc q => ?_) (fun c n x hc hn q => ?_))⟩
  · rw [h.1.i 19 0 k (fun q => by
      rcases q with q | q | q
      · omega
      · omega
      · exact (hm 19 k).2 rfl q)]
    exact h1
  · rcases q with q | q | q
    · omega
    · omega
    · rcases (show k = 0 ∨ k = 1 by omega) with rfl | rfl
      · exact ((hm c x).1 hc).1 q
      · exact ((hm c x).1 hc).2 q
  · rcases q with ⟨q, r⟩ | ⟨q, r⟩ | q
    · subst q; omega
    · subst q; omega
    · exact hm2 c n x hc q
section zGw
variable {d kc ks i j : Nat} {σ : zSt} {A : zAb} {B : zSh} {Q : Option zV → zSt → Prop}
theorem O_X11_measures {K : Int32 → zSt → Prop} {P : zAb → zSt → Prop} (hP1 : ∀ A σ σ' a b c p q, zWf A → zRD A σ 0 → P A σ → zRD (measF A a b c p q).2 σ' 0 → zMad zQme σ σ' → ((measF A a b c p q).1 < 0 → σ' = σ) → (0 ≤ (measF A a b c p q).1 → zForg σ') → P (measF A a b c p q).2 σ') (hP2 : ∀ A σ x, P A σ → P A (zsi σ 6 0 15 x)) (hP : P A σ) (hW : zWf A) (hR : zRD A σ 0) (hB : zWs B) (hS : zSD B σ) (a l i n : Int32) (hno : ¬ shI a → K (-1) (zsi σ 6 0 15 0)) (hout : shI a → ¬ shI l → K (-2) (zsi σ 6 0 15 0)) (hcast : ∀ k, k < 4 → a = nI k → shI l → 0 ≤ B.1 k → B.2.1 k ≠ l.toInt → K (-12) (zsi (zsi σ 6 0 15 0) 6 0 15 2)) (hnull : ∀ k, k < 4 → a = nI k → shI l → B.1 k < 0 → K (-11) (zsi (zsi σ 6 0 15 0) 6 0 15 1))
    (hneg : ∀ k, k < 4 → a = nI k → shI l → 0 ≤ B.1 k → B.2.1 k = l.toInt → n.toInt < 0 → K (-14) (zsi (zsi σ 6 0 15 0) 6 0 15 4))
    (hyes : ∀ k, k < 4 → a = nI k → shI l → 0 ≤ B.1 k → B.2.1 k = l.toInt → 0 ≤ n.toInt → ∀ σ', zRD (msRun B k i.toInt n.toInt 20 0 A).2.2 σ' 0 → P (msRun B k i.toInt n.toInt 20 0 A).2.2 σ' → zMad zQms σ σ' → zgi σ' 6 0 15 = iI (msRun B k i.toInt n.toInt 20 0 A).2.1 → K (iI (msRun B k i.toInt n.toInt 20 0 A).1) σ') : zCi true (d + 5) 13 78 M_X11_measures [.inr (.inr (6, 0)), .inl (a), .inl (l), .inl (i), .inl (n)] σ K := by
  have rn := fb_rng n
  have n0 : (0 ≤ n) ↔ 0 ≤ n.toInt := by rw [Int32.le_iff_toInt_le]; rfl
  refine zC_intro pl_X11 (Nat.le_of_ble_eq_true rfl) (T_X11_measures_0 (k1 := 13) (m1 := 78) (kc := 0) (ks := 0) (S_X11_refusalOfRow hB hS a l (fun h => ⟨fun q => absurd q (by decide), fun _ => ⟨_, rfl, hno h⟩⟩) (fun h h2 => ⟨fun q => absurd q (by decide), fun _ => ⟨_, rfl, hout h h2⟩⟩) (fun k hk e h2 h0 h3 => ⟨fun q => absurd q (by decide), fun _ => ⟨_, rfl, hcast k hk e h2 h0 h3⟩⟩) (fun k hk e h2 h0 => ⟨fun q => absurd q (by decide), fun _ => ⟨_, rfl, hnull k hk e h2 h0⟩⟩) (fun k hk e h2 h0 h3 => ⟨fun _ => ?_, fun q => absurd rfl q⟩)))
  subst e
  have i4 : vp_in (nI k) 4 := nI_in (by omega) (by omega)
  have o0 : zOnly z615 σ (zsi σ 6 0 15 0) := zOnly.si ⟨rfl, rfl⟩
  have hR0 : zRD A (zsi σ 6 0 15 0) 0 := hR.only o0 rfl (fun c j k h => by unfold zBD at h; omega)
  have f0 : zgi (zsi σ 6 0 15 0) 6 0 15 = 0 := by rw [zgi_si, if_pos ⟨rfl, rfl, rfl⟩]
  have hS0 : zSD B (zsi σ 6 0 15 0) := hS.f
  have hP0 := hP2 A σ 0 hP
  have hMd : zMad zQms σ (zsi σ 6 0 15 0) := (zMad.of (m := z615) (zOnly.si ⟨rfl, rfl⟩) rfl (fun j k => by omega)).mono (fun c j k h => Or.inr h)
  rw [nI_clamp (show k < 2 ^ 31 by omega), n0]
  refine ⟨fun g => ⟨i4, zC_intro pl_X11 (Nat.le_of_ble_eq_true rfl) (T_X11_measuresFrom_0 ?_)⟩, fun g => S_X11_faulty _ ⟨_, rfl, hneg k hk rfl h2 h0 h3 (by omega)⟩⟩
  have := L_X11_measures (d := d) (P := P) (B := B) (n := n.toInt) hB hk h0 ⟨g, rn.2⟩ i hP1 hP2 (σ0 := σ) (K := fun x s => ∃ y, some (Sum.inl x : zV) = some (.inl y) ∧ K y s) 20 0 rfl (by omega) (Or.inl rfl) g A 0 0 _ hW hR0 hP0 hS0 f0 hMd (fun σ' r1 p1 o1 f1 => ⟨_, rfl, hyes k hk rfl h2 h0 h3 g σ' r1 p1 o1 f1⟩)
  rw [iI_of, show i.toInt + 5 * ((0 : Nat) : Int) = i.toInt by omega, iI_of] at this
  exact this
/-- one desk made like another -/
theorem L_X1_like150 (hij : i ≠ j) {σ0 : zSt} (hQ : ∀ σ', zOnly (fun c a _ => (27 ≤ c ∧ c ≤ 29) ∧ a = j) σ0 σ' → σ'.2.2.2 = σ0.2.2.2 → (∀ v, v < 3 → zgi σ' 27 j v = zgi σ0 27 i v ∧ zgi σ' 28 j v = zgi σ0 28 i v ∧ zgi σ' 29 j v = zgi σ0 29 i v) → Q none σ') : ∀ (n k : Nat), k + n = 3 → ∀ σ : zSt, zOnly (fun c a _ => (27 ≤ c ∧ c ≤ 29) ∧ a = j) σ0 σ → σ.2.2.2 = σ0.2.2.2 → (∀ v, v < k → zgi σ 27 j v = zgi σ0 27 i v ∧ zgi σ 28 j v = zgi σ0 28 i v ∧ zgi σ 29 j v = zgi σ0 29 i v) → zE true (d + 1) kc ks M_X1_becomeLike 150 [some (.inr (.inr (7, j))), some (.inr (.inr (7, i))), some (.inl (nI k))] [] σ Q := by
  intro n
  induction n with
  | zero =>
    intro k hk σ ho hh hz
    have : k = 3 := by omega
    subst this
    exact T_X1_becomeLike_150 ⟨fun _ => hQ σ ho hh hz, fun g => absurd (show (3 : Int32) ≤ nI 3 by decide) g⟩
  | succ n ih =>
    intro k hk σ ho hh hz
    have i3 : vp_in (nI k) 3 := nI_in (by omega) (by omega)
    refine T_X1_becomeLike_150 ⟨fun g => ?_, fun _ => ?_⟩
    · rw [show (3 : Int32) = nI 3 from rfl, nI_leI (by omega) (by omega)] at g
      omega
    · rw [nI_clamp (show k < 2 ^ 31 by omega), ← nI_succ, ho.i 27 i k (by omega), ho.i 28 i k (by omega), ho.i 29 i k (by omega)]
      refine ⟨i3, i3, i3, i3, i3, i3, ih (k + 1) (by omega) _ (((ho.tr (zOnly.si (by omega))).tr (zOnly.si (by omega))).tr (zOnly.si (by omega))) hh (fun v hv => ?_)⟩
      by_cases z : v = k
      · subst z
        simp [zgi_si]
      · simp [zgi_si, z]
        exact hz v (by omega)
theorem L_X1_like124 (hij : i ≠ j) {σ0 : zSt} (hT : ∀ m, m < 60 → (zgr σ0 26 i m).1 = 0 ∨ (zgr σ0 26 i m).1 = 17) (hnext : ∀ σ', zOnly (fun c a e => c = 26 ∧ a = j ∧ e < 60) σ0 σ' → σ'.2.2.2 = σ0.2.2.2 → (∀ v, v < 60 → zgr σ' 26 j v = zgr σ0 26 i v) → zE true (d + 1) kc ks M_X1_becomeLike 150 [some (.inr (.inr (7, j))), some (.inr (.inr (7, i))), some (.inl (0))] [] (σ') Q) : ∀ (n k : Nat), k + n = 60 → ∀ σ : zSt, zOnly (fun c a e => c = 26 ∧ a = j ∧ e < 60) σ0 σ → σ.2.2.2 = σ0.2.2.2 → (∀ v, v < k → zgr σ 26 j v = zgr σ0 26 i v) → zE true (d + 1) kc ks M_X1_becomeLike 124 [some (.inr (.inr (7, j))), some (.inr (.inr (7, i))), some (.inl (nI k))] [] σ Q := by
  intro n
  induction n with
  | zero =>
    intro k hk σ ho hh hz
    have : k = 60 := by omega
    subst this
    exact T_X1_becomeLike_124 ⟨fun _ => hnext σ ho hh hz, fun g => absurd (show (60 : Int32) ≤ nI 60 by decide) g⟩
  | succ n ih =>
    intro k hk σ ho hh hz
    have i3 : vp_in (nI k) 60 := nI_in (by omega) (by omega)
    refine T_X1_becomeLike_124 ⟨fun g => ?_, fun _ => ?_⟩
    · rw [show (60 : Int32) = nI 60 from rfl, nI_leI (by omega) (by omega)] at g
      omega
    · rw [nI_clamp (show k < 2 ^ 31 by omega), ← nI_succ, ho.r 26 i k (by omega)]
      refine ⟨i3, ⟨i3, hT k (by omega)⟩, ih (k + 1) (by omega) _ (ho.tr (zOnly.sr (by omega))) hh (fun v hv => ?_)⟩
      rw [zgr_sr]
      by_cases z : v = k
      · rw [if_pos ⟨rfl, rfl, z⟩, z]
      · rw [if_neg (fun q => z q.2.2)]
        exact hz v (by omega)
theorem L_X1_like74 (hij : i ≠ j) {σ0 : zSt} (hT : ∀ m, m < 24 → (zgr σ0 23 i m).1 = 0 ∨ (zgr σ0 23 i m).1 = 16) (hnext : ∀ σ', zOnly (fun c a e => (23 ≤ c ∧ c ≤ 25) ∧ a = j ∧ e < 24) σ0 σ' → σ'.2.2.2 = σ0.2.2.2 → (∀ v, v < 24 → zgr σ' 23 j v = zgr σ0 23 i v ∧ zgl σ' 24 j v = zgl σ0 24 i v ∧ zgi σ' 25 j v = zgi σ0 25 i v) → zE true (d + 1) kc ks M_X1_becomeLike 124 [some (.inr (.inr (7, j))), some (.inr (.inr (7, i))), some (.inl (0))] [] (σ') Q) : ∀ (n k : Nat), k + n = 24 → ∀ σ : zSt, zOnly (fun c a e => (23 ≤ c ∧ c ≤ 25) ∧ a = j ∧ e < 24) σ0 σ → σ.2.2.2 = σ0.2.2.2 → (∀ v, v < k → zgr σ 23 j v = zgr σ0 23 i v ∧ zgl σ 24 j v = zgl σ0 24 i v ∧ zgi σ 25 j v = zgi σ0 25 i v) → zE true (d + 1) kc ks M_X1_becomeLike 74 [some (.inr (.inr (7, j))), some (.inr (.inr (7, i))), some (.inl (nI k))] [] σ Q := by
  intro n
  induction n with
  | zero =>
    intro k hk σ ho hh hz
    have : k = 24 := by omega
    subst this
    exact T_X1_becomeLike_74 ⟨fun _ => hnext σ ho hh hz, fun g => absurd (show (24 : Int32) ≤ nI 24 by decide) g⟩
  | succ n ih =>
    intro k hk σ ho hh hz
    have i3 : vp_in (nI k) 24 := nI_in (by omega) (by omega)
    refine T_X1_becomeLike_74 ⟨fun g => ?_, fun _ => ?_⟩
    · rw [show (24 : Int32) = nI 24 from rfl, nI_leI (by omega) (by omega)] at g
      omega
    · rw [nI_clamp (show k < 2 ^ 31 by omega), ← nI_succ, ho.r 23 i k (by omega), ho.l 24 i k (by omega), ho.i 25 i k (by omega)]
      refine ⟨i3, ⟨i3, hT k (by omega)⟩, i3, i3, i3, i3, ih (k + 1) (by omega) _ (((ho.tr (zOnly.sr (by omega))).tr (zOnly.sl (by omega))).tr (zOnly.si (by omega))) hh (fun v hv => ?_)⟩
      rw [zgr_si, zgr_sl, zgr_sr, zgl_si, zgl_sl, zgi_si, zgi_sl, zgi_sr, zgl_sr]
      by_cases z : v = k
      · subst z
        rw [if_pos ⟨rfl, rfl, rfl⟩, if_pos ⟨rfl, rfl, rfl⟩, if_pos ⟨rfl, rfl, rfl⟩]
        exact ⟨rfl, rfl, rfl⟩
      · rw [if_neg (fun q => z q.2.2), if_neg (fun q => z q.2.2), if_neg (fun q => z q.2.2)]
        exact hz v (by omega)
theorem S_X1_becomeLike {K : zSt → Prop} (hij : i ≠ j) (hT : zTyR σ) (h15 : zgi σ 7 i 15 = 0 ∨ zgi σ 7 i 15 = 1) (hK : ∀ σ', zOnly (fun c a _ => (c = 7 ∨ 23 ≤ c ∧ c ≤ 29) ∧ a = j) σ σ' → σ'.2.2.2 = σ.2.2.2 → zTyR σ' → zLike σ σ' i j → K σ') : zCv true (d + 1) 0 0 M_X1_becomeLike [.inr (.inr (7, j)), .inr (.inr (7, i))] σ K := by
  refine zC_intro pl_X1 (Nat.le_of_ble_eq_true rfl) (T_X1_becomeLike_0 ?_)
  simp only [zgi_si, zgl_si, zgi_sl, zgl_sl, hij, false_and, and_false, if_false]
  refine ⟨h15, ?_⟩
  have o0 : zOnly (fun c a _ => c = 7 ∧ a = j) σ (zsi (zsi (zsl (zsi (zsi (zsi (zsl (zsi (zsi σ 7 j 0 (zgi σ 7 i 0)) 7 j 1 (zgi σ 7 i 1)) 7 j 2 (zgl σ 7 i 2)) 7 j 3 (zgi σ 7 i 3)) 7 j 7 (zgi σ 7 i 7)) 7 j 8 (zgi σ 7 i 8)) 7 j 10 (zgl σ 7 i 10)) 7 j 11 (zgi σ 7 i 11)) 7 j 15 (zgi σ 7 i 15)) := ((((((((zOnly.si ⟨rfl, rfl⟩).tr (zOnly.si ⟨rfl, rfl⟩)).tr (zOnly.sl ⟨rfl, rfl⟩)).tr (zOnly.si ⟨rfl, rfl⟩)).tr (zOnly.si ⟨rfl, rfl⟩)).tr (zOnly.si ⟨rfl, rfl⟩)).tr (zOnly.sl ⟨rfl, rfl⟩)).tr (zOnly.si ⟨rfl, rfl⟩)).tr (zOnly.si ⟨rfl, rfl⟩)
  have q7 : (∀ k, (k = 0 ∨ k = 1 ∨ k = 3 ∨ k = 7 ∨ k = 8 ∨ k = 11 ∨ k = 15) → zgi (zsi (zsi (zsl (zsi (zsi (zsi (zsl (zsi (zsi σ 7 j 0 (zgi σ 7 i 0)) 7 j 1 (zgi σ 7 i 1)) 7 j 2 (zgl σ 7 i 2)) 7 j 3 (zgi σ 7 i 3)) 7 j 7 (zgi σ 7 i 7)) 7 j 8 (zgi σ 7 i 8)) 7 j 10 (zgl σ 7 i 10)) 7 j 11 (zgi σ 7 i 11)) 7 j 15 (zgi σ 7 i 15)) 7 j k = zgi σ 7 i k) ∧ ∀ k, (k = 2 ∨ k = 10) → zgl (zsi (zsi (zsl (zsi (zsi (zsi (zsl (zsi (zsi σ 7 j 0 (zgi σ 7 i 0)) 7 j 1 (zgi σ 7 i 1)) 7 j 2 (zgl σ 7 i 2)) 7 j 3 (zgi σ 7 i 3)) 7 j 7 (zgi σ 7 i 7)) 7 j 8 (zgi σ 7 i 8)) 7 j 10 (zgl σ 7 i 10)) 7 j 11 (zgi σ 7 i 11)) 7 j 15 (zgi σ 7 i 15)) 7 j k = zgl σ 7 i k := by
    refine ⟨fun k hk => ?_, fun k hk => ?_⟩
    · rcases hk with rfl | rfl | rfl | rfl | rfl | rfl | rfl <;> simp [zgi_si, zgi_sl]
    · rcases hk with rfl | rfl <;> simp [zgl_si, zgl_sl]
  have hh0 : (zsi (zsi (zsl (zsi (zsi (zsi (zsl (zsi (zsi σ 7 j 0 (zgi σ 7 i 0)) 7 j 1 (zgi σ 7 i 1)) 7 j 2 (zgl σ 7 i 2)) 7 j 3 (zgi σ 7 i 3)) 7 j 7 (zgi σ 7 i 7)) 7 j 8 (zgi σ 7 i 8)) 7 j 10 (zgl σ 7 i 10)) 7 j 11 (zgi σ 7 i 11)) 7 j 15 (zgi σ 7 i 15)).2.2.2 = σ.2.2.2 := rfl
  generalize zsi (zsi (zsl (zsi (zsi (zsi (zsl (zsi (zsi σ 7 j 0 (zgi σ 7 i 0)) 7 j 1 (zgi σ 7 i 1)) 7 j 2 (zgl σ 7 i 2)) 7 j 3 (zgi σ 7 i 3)) 7 j 7 (zgi σ 7 i 7)) 7 j 8 (zgi σ 7 i 8)) 7 j 10 (zgl σ 7 i 10)) 7 j 11 (zgi σ 7 i 11)) 7 j 15 (zgi σ 7 i 15) = τ at o0 q7 hh0 ⊢
  refine L_X1_like74 hij (σ0 := τ) (fun m hm => by rw [o0.r 23 i m (by omega)]; exact hT.1 i m) (fun σ1 o1 h1 z1 => L_X1_like124 hij (σ0 := σ1) (fun m hm => by rw [o1.r 26 i m (by omega), o0.r 26 i m (by omega)]; exact hT.2 i m) (fun σ2 o2 h2 z2 => L_X1_like150 hij (σ0 := σ2) (fun σ3 o3 h3 z3 => ⟨rfl, hK σ3 ?_ (h3.trans (h2.trans (h1.trans hh0))) ?_ ?_⟩) 3 0 rfl σ2 zOnly.rf rfl (fun v hv => absurd hv (Nat.not_lt_zero v))) 60 0 rfl σ1 zOnly.rf rfl (fun v hv => absurd hv (Nat.not_lt_zero v))) 24 0 rfl τ zOnly.rf rfl (fun v hv => absurd hv (Nat.not_lt_zero v))
  · exact (((o0.mono (fun c a e h => by omega)).tr (o1.mono (fun c a e h => by omega))).tr (o2.mono (fun c a e h => by omega))).tr (o3.mono (fun c a e h => by omega))
  · refine ⟨fun a k => ?_, fun a k => ?_⟩
    · rw [o3.r 23 a k (by omega), o2.r 23 a k (by omega)]
      by_cases z : a = j ∧ k < 24
      · rw [z.1, (z1 k z.2).1, o0.r 23 i k (by omega)]
        exact hT.1 i k
      · rw [o1.r 23 a k (by omega), o0.r 23 a k (by omega)]
        exact hT.1 a k
    · rw [o3.r 26 a k (by omega)]
      by_cases z : a = j ∧ k < 60
      · rw [z.1, z2 k z.2, o1.r 26 i k (by omega), o0.r 26 i k (by omega)]
        exact hT.2 i k
      · rw [o2.r 26 a k (by omega), o1.r 26 a k (by omega), o0.r 26 a k (by omega)]
        exact hT.2 a k
  · refine ⟨⟨fun k hk => ?_, fun k hk => ?_⟩, fun t ht => ?_, fun m hm => ?_, fun v hv => ?_, fun c => ?_, fun c n k hc hn => ?_⟩
    · rw [o3.i 7 j k (by omega), o2.i 7 j k (by omega), o1.i 7 j k (by omega)]
      exact q7.1 k hk
    · rw [o3.l 7 j k (by omega), o2.l 7 j k (by omega), o1.l 7 j k (by omega)]
      exact q7.2 k hk
    · obtain ⟨u1, u2, u3⟩ := z1 t ht
      rw [o3.r 23 j t (by omega), o2.r 23 j t (by omega), o3.l 24 j t (by omega), o2.l 24 j t (by omega), o3.i 25 j t (by omega), o2.i 25 j t (by omega), u1, u2, u3, o0.r 23 i t (by omega), o0.l 24 i t (by omega), o0.i 25 i t (by omega)]
      exact ⟨rfl, rfl, rfl⟩
    · rw [o3.r 26 j m (by omega), z2 m hm, o1.r 26 i m (by omega), o0.r 26 i m (by omega)]
    · obtain ⟨u1, u2, u3⟩ := z3 v hv
      rw [u1, u2, u3, o2.i 27 i v (by omega), o1.i 27 i v (by omega), o0.i 27 i v (by omega), o2.i 28 i v (by omega), o1.i 28 i v (by omega), o0.i 28 i v (by omega), o2.i 29 i v (by omega), o1.i 29 i v (by omega), o0.i 29 i v (by omega)]
      exact ⟨rfl, rfl, rfl⟩
    · have e := h3.trans (h2.trans (h1.trans hh0))
      unfold zcn
      rw [e]
      exact Nat.le_refl _
    · rw [o3.i c n k (by omega), o2.i c n k (by omega), o1.i c n k (by omega), o0.i c n k (by omega)]
theorem zb_e01 {p : Prop} [Decidable p] {x : Int32} (h : x = zb p) : x = 0 ∨ x = 1 := by
  rw [h]
  unfold zb
  split
  · exact Or.inr rfl
  · exact Or.inl rfl
abbrev zQkp (c j _k : Nat) : Prop := ((c = 7 ∨ 23 ≤ c ∧ c ≤ 29) ∧ (j = 1 ∨ j = 2)) ∨ c = 19
theorem O_X11_keep {I : Nat → Bool × zAb} {K : Int32 → zSt → Prop} (hW : zWf A) (hR : zRD A σ 0) (hT : zTyR σ) (hI : zID I σ) (hIW : ∀ k, k < 2 → (I k).1 = true → zWf (I k).2) (a : Int32) (hno : ¬ (a = 0 ∨ a = 1) → K (-1) σ) (hyes : ∀ k, k < 2 → a = nI k → ∀ σ', zID (iSet I k A) σ' → zTyR σ' → zOnly zQkp σ σ' → σ'.2.2.2 = σ.2.2.2 → K 1 σ') : zCi true (d + 2) 0 0 M_X11_keep [.inr (.inr (6, 0)), .inl (a)] σ K := by
  refine zC_intro pl_X11 (Nat.le_of_ble_eq_true rfl) (T_X11_keep_0 ⟨fun h => ?_, fun h => ⟨_, rfl, hno ?_⟩⟩)
  · rw [zb_0, Decidable.not_not, zin01] at h
    obtain ⟨k, hk, rfl⟩ : ∃ k, k < 2 ∧ a = nI k := by
      rcases h with rfl | rfl
      · exact ⟨0, by omega, rfl⟩
      · exact ⟨1, by omega, rfl⟩
    have i2 : vp_in (nI k) 2 := nI_in (by omega) (by omega)
    rw [nI_clamp (show k < 2 ^ 31 by omega)]
    refine ⟨i2, S_X1_becomeLike (by omega) hT (zb_e01 hR.1.2.2.2.2.2.2.2.2) (fun σ1 o1 h1 t1 l1 => ⟨i2, _, rfl, ?_⟩)⟩
    have o2 : zOnly (fun c _ e => c = 19 ∧ e = k) σ1 (zsi σ1 19 0 k 1) := zOnly.si ⟨rfl, rfl⟩
    have l2 : ∀ b, zLike σ1 (zsi σ1 19 0 k 1) b b := fun b => zLike.of o2 (fun c => Nat.le_refl _) (fun c e hc => by omega) (fun c n e hc _ => by omega)
    have lw : ∀ b, b ≠ k + 1 → zLike σ σ1 b b := fun b hb => zLike.of o1 (fun c => by unfold zcn; rw [h1]; exact Nat.le_refl _) (fun c e hc => by omega) (fun c n e hc _ => by omega)
    refine hyes k hk rfl _ (fun b hb => ?_) (t1.only o2 (fun j e => by omega)) ((o1.mono (fun c j e h => by omega)).tr (o2.mono (fun c j e h => by omega))) h1
    unfold iSet
    by_cases z : b = k
    · subst z
      simp only [if_true]
      exact ⟨by rw [zgi_si, if_pos ⟨rfl, rfl, rfl⟩]; rfl, fun _ => zRD.like hW (zRD.like hW hR l1) (l2 _)⟩
    · simp only [if_neg z]
      obtain ⟨g1, g2⟩ := hI b hb
      refine ⟨?_, fun y => zRD.like (hIW b hb y) (zRD.like (hIW b hb y) (g2 y) (lw _ (by omega))) (l2 _)⟩
      rw [zgi_si, if_neg (fun q => z q.2.2), o1.i 19 0 b (by omega)]
      exact g1
  · rw [zb_0, zin01] at h
    exact h
abbrev zQbk (c j k : Nat) : Prop := ((c = 7 ∨ 23 ≤ c ∧ c ≤ 29) ∧ j = 0) ∨ zCh c k ∨ (c = 9 ∧ k = 3)
theorem O_X11_back {I : Nat → Bool × zAb} {K : Int32 → zSt → Prop} (hT : zTyR σ) (hI : zID I σ) (hIW : ∀ k, k < 2 → (I k).1 = true → zWf (I k).2) (a : Int32) (hno : ¬ (a = 0 ∨ a = 1) → K (-1) σ) (hst : ∀ k, k < 2 → a = nI k → (I k).1 = false → K (-3) σ) (hyes : ∀ k, k < 2 → a = nI k → (I k).1 = true → ∀ σ', zRD (I k).2 σ' 0 → zForg σ' → zgl σ' 9 0 3 = 0 → zTyR σ' → zOnly zQbk σ σ' → σ'.2.2.2 = σ.2.2.2 → K 1 σ') : zCi true (d + 4) 0 0 M_X11_back [.inr (.inr (6, 0)), .inl (a)] σ K := by
  refine zC_intro pl_X11 (Nat.le_of_ble_eq_true rfl) (T_X11_back_0 ⟨fun h => ?_, fun h => ⟨_, rfl, hno ?_⟩⟩)
  · rw [zb_0, Decidable.not_not, zin01] at h
    obtain ⟨k, hk, rfl⟩ : ∃ k, k < 2 ∧ a = nI k := by
      rcases h with rfl | rfl
      · exact ⟨0, by omega, rfl⟩
      · exact ⟨1, by omega, rfl⟩
    have i2 : vp_in (nI k) 2 := nI_in (by omega) (by omega)
    obtain ⟨g1, g2⟩ := hI k hk
    rw [nI_clamp (show k < 2 ^ 31 by omega), g1]
    refine ⟨i2, fun g => ?_, fun g => ⟨_, rfl, ?_⟩⟩
    · rw [zb_0, Decidable.not_not] at g
      have r := g2 g
      refine ⟨i2, S_X1_becomeLike (by omega) hT (zb_e01 r.1.2.2.2.2.2.2.2.2) (fun σ1 o1 h1 t1 l1 => S_X11_wallsChanged (fun σ2 o2 f2 s2 h2 => ⟨_, rfl, ?_⟩))⟩
      refine hyes k hk rfl g σ2 ((zRD.like (hIW k hk g) r l1).only o2 h2 (fun c j k hb hq => by unfold zBD at hb; unfold zCh at hq; omega)) f2 s2 (t1.only o2 (fun j e => by unfold zCh; omega)) ((o1.mono (fun c j e h => Or.inl h)).tr (o2.mono (fun c j e h => Or.inr h))) (h2.trans h1)
    · rw [zb_0, Bool.not_eq_true] at g
      exact hst k hk rfl g
  · rw [zb_0, zin01] at h
    exact h
end zGw
