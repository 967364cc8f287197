/-! calls that change the desk: both sides -/
section zGr1
variable {σ σ' σ1 : zSt} {A A' : zAb} {B : zSh} {H : zHo} {I : Nat → Bool × zAb} {M : Nat → Nat → Nat → Prop}
theorem wf_3 (h1 : A'.1 = A.1) (h2 : A'.2.1 = A.2.1) (h3 : A'.2.2.1 = A.2.2.1) (hW : zWf A) (hf : ∀ t c, t < aN A → 0 < aK A t → aC A t = ((c : Nat) : Int) → afree A c = true → afree A' c = true) : zWf A' := by
  obtain ⟨a1, a2, a3, a4⟩ := A
  obtain ⟨b1, b2, b3, b4⟩ := A'
  have h1 : b1 = a1 := h1
  have h2 : b2 = a2 := h2
  have h3 : b3 = a3 := h3
  subst h1 h2 h3
  obtain ⟨w1, w2, w3, w4⟩ := hW
  refine ⟨w1, fun t ht => ?_, w3, w4⟩
  obtain ⟨q1, q2, q3⟩ := w2 t ht
  exact ⟨q1, fun z => (by
    obtain ⟨c, e, f⟩ := q2 z
    exact ⟨c, e, hf t c ht z e f⟩), q3⟩
theorem wf_as3 {a k : Nat} {v : Bool} (ha : 0 < a) (hW : zWf A) : zWf (as3 A a k v) := wf_3 (A := A) rfl rfl rfl hW (fun t c _ _ _ f => by
  unfold afree aWl at f ⊢
  rw [as3_ne (by omega)]
  exact f)
theorem wf_wall {c : Nat} {v : Bool} (h : anAt A c = false) (hW : zWf A) : zWf (as3 A 0 c v) := wf_3 (A := A) rfl rfl rfl hW (fun t x ht hk e f => by
  have hx : x ≠ c := fun z => by
    subst z
    have hn : aN A ≤ 24 := hW.1.2.2.2.2.1
    have : anAt A x = true := by
      unfold anAt
      exact aAny_iff.mpr ⟨t, ht, by simp [e]; exact hk⟩
    rw [this] at h
    exact absurd h (by decide)
  unfold afree aWl at f ⊢
  rw [as3_ne (by omega)]
  exact f)
theorem zJx.chf (j : zJx A B H I σ) (hW : zWf A') (h1 : zOnly (fun c j k => (c = 16 ∧ zcn σ 16 ≤ j) ∨ (c = 17 ∧ zcn σ 17 ≤ j) ∨ M c j k) σ σ1) (hm : ∀ c j k, M c j k → ((c = 7 ∨ 23 ≤ c ∧ c ≤ 29) ∧ j = 0) ∨ c = 30 ∨ (8 ≤ c ∧ c ≤ 13) ∨ (31 ≤ c ∧ c ≤ 52) ∨ (c = 6 ∧ (k = 13 ∨ k = 15))) (hT : zTyR σ1) (hx : zX σ σ1) (hR : zRD A' σ1 0) (hC : zCC A' σ1) : zJM A B H I σ1 ∧ zKpp σ σ1 ∧ ∀ (σ2 : zSt) (M2 : Nat → Nat → Nat → Prop), zOnly M2 σ1 σ2 → (∀ c j k, M2 c j k → (55 ≤ c ∧ c ≤ 90) ∨ (c = 54 ∧ ¬ (k = 42 ∨ k = 78))) → zX σ1 σ2 → zRM A' σ2 → zCM A' σ2 → zgi σ2 6 0 15 = zgi σ2 54 0 0 → zJ σ2 ∧ zKpp σ1 σ2 := by
  have n : ∀ c j k, ¬ (((c = 7 ∨ 23 ≤ c ∧ c ≤ 29) ∧ j = 0) ∨ c = 30 ∨ (8 ≤ c ∧ c ≤ 13) ∨ (31 ≤ c ∧ c ≤ 52) ∨ (c = 6 ∧ (k = 13 ∨ k = 15))) → c ≠ 16 → c ≠ 17 → ¬ ((c = 16 ∧ zcn σ 16 ≤ j) ∨ (c = 17 ∧ zcn σ 17 ≤ j) ∨ M c j k) := fun c j k a b b2 q => by
    rcases q with q | q | q
    · exact b q.1
    · exact b2 q.1
    · exact a (hm c j k q)
  have hlt : ∀ c j k, ((c = 16 ∧ zcn σ 16 ≤ j) ∨ (c = 17 ∧ zcn σ 17 ≤ j) ∨ M c j k) → c < 54 ∧ c ≠ 1 ∧ c ≠ 14 ∧ ¬ (c = 6 ∧ k = 14) := fun c j k q => by
    rcases q with q | q | q
    · omega
    · omega
    · have := hm c j k q
      omega
  obtain ⟨hwA, hwB, hwH, hwI⟩ := j.1
  have d := j.2.1
  have m1 := j.2.2.1.cl j.1 h1 (fun c j k q => (hlt c j k q).1)
  have d1 : zJD A' B H I σ1 := by
    refine ⟨hR, hC, d.2.2.1.on h1 (fun c j k a b => n _ _ _ (by omega) (by omega) (by omega)), d.2.2.2.1.only h1 (fun j k => ⟨n _ _ _ (by omega) (by omega) (by omega), n _ _ _ (by omega) (by omega) (by omega)⟩), d.2.2.2.2.1.of hx.cn (fun k => ⟨h1.r 20 0 k (n _ _ _ (by omega) (by omega) (by omega)), h1.r 21 0 k (n _ _ _ (by omega) (by omega) (by omega))⟩) (fun c m k hc hn => h1.i c m k (fun q => ?_)), fun k hk => ?_, hT⟩
    · rcases q with ⟨q, r⟩ | ⟨q, r⟩ | q
      · subst q; omega
      · subst q; omega
      · have := hm c m k q; omega
    · obtain ⟨i1, i2⟩ := d.2.2.2.2.2.1 k hk
      refine ⟨by rw [h1.i 19 0 k (n _ _ _ (by omega) (by omega) (by omega))]; exact i1, fun z => zRD.like (hwI k hk z) (i2 z) (zLike.of h1 hx.cn (fun c x hc => n _ _ _ (by omega) (by omega) (by omega)) (fun c n x hc hn q => ?_))⟩
      rcases q with ⟨q, r⟩ | ⟨q, r⟩ | q
      · subst q; omega
      · subst q; omega
      · have := hm c n x q; omega
  have w1 : zJW A' B H I := ⟨hW, hwB, hwH, hwI⟩
  refine ⟨m1, zKpp.cl h1 hx (fun k q => (hlt 1 0 k q).2.1 rfl), fun σ2 M2 o2 hm2 hx2 r2 c2 e => ⟨⟨A', B, H, I, w1, d1.rf w1 o2 hx2 (fun c j k q => by have := hm2 c j k q; omega), ?_, e, ?_, ?_⟩, zKpp.cl o2 hx2 (fun k q => by have := hm2 1 0 k q; omega)⟩⟩
  · have n2 : ∀ c j k, 91 ≤ c → ¬ M2 c j k := fun c j k a q => by have := hm2 c j k q; omega
    exact ⟨r2, c2, m1.2.2.1.only hwB o2 (fun k => ⟨n2 _ _ _ (by omega), n2 _ _ _ (by omega), n2 _ _ _ (by omega)⟩), m1.2.2.2.1.only o2 (fun k => ⟨n2 _ _ _ (by omega), n2 _ _ _ (by omega), n2 _ _ _ (by omega), n2 _ _ _ (by omega), n2 _ _ _ (by omega)⟩), m1.2.2.2.2.only hwI o2 (fun k => ⟨n2 _ _ _ (by omega), n2 _ _ _ (by omega)⟩)⟩
  · rw [o2.i 14 0 0 (fun q => by have := hm2 _ _ _ q; omega), o2.i 54 0 78 (fun q => by have := hm2 _ _ _ q; omega), h1.i 14 0 0 (fun q => (hlt _ _ _ q).2.2.1 rfl), h1.i 54 0 78 (fun q => by have := hlt _ _ _ q; omega)]
    exact j.2.2.2.2.1
  · rw [o2.i 6 0 14 (fun q => by have := hm2 _ _ _ q; omega), o2.i 54 0 42 (fun q => by have := hm2 _ _ _ q; omega), h1.i 6 0 14 (fun q => (hlt _ _ _ q).2.2.2 ⟨rfl, rfl⟩), h1.i 54 0 42 (fun q => by have := hlt _ _ _ q; omega)]
    exact j.2.2.2.2.2
theorem zJx.ch0 (j : zJx A B H I σ) (hW : zWf A') (h1 : zOnly (fun c j k => (c = 16 ∧ zcn σ 16 ≤ j) ∨ (c = 17 ∧ zcn σ 17 ≤ j) ∨ M c j k) σ σ1) (hm : ∀ c j k, M c j k → ((c = 7 ∨ 23 ≤ c ∧ c ≤ 29) ∧ j = 0) ∨ c = 30 ∨ (8 ≤ c ∧ c ≤ 13) ∨ (31 ≤ c ∧ c ≤ 52) ∨ (c = 6 ∧ k = 13)) (hT : zTyR σ1) (hx : zX σ σ1) (hR : zRD A' σ1 0) (hC : zCC A' σ1) : zJM A B H I σ1 ∧ zKpp σ σ1 ∧ ∀ (σ2 : zSt) (M2 : Nat → Nat → Nat → Prop), zOnly M2 σ1 σ2 → (∀ c j k, M2 c j k → (55 ≤ c ∧ c ≤ 90) ∨ (c = 54 ∧ ¬ (k = 0 ∨ k = 42 ∨ k = 78))) → zX σ1 σ2 → zRM A' σ2 → zCM A' σ2 → zJ σ2 ∧ zKpp σ1 σ2 := by
  obtain ⟨m, k, f⟩ := j.chf hW h1 (fun c j k q => by have := hm c j k q; omega) hT hx hR hC
  refine ⟨m, k, fun σ2 M2 o2 hm2 hx2 r2 c2 => f σ2 M2 o2 (fun c j k q => by have := hm2 c j k q; omega) hx2 r2 c2 ?_⟩
  rw [o2.i 6 0 15 (fun q => by have := hm2 _ _ _ q; omega), o2.i 54 0 0 (fun q => by have := hm2 _ _ _ q; omega), h1.i 6 0 15 (fun q => by
    rcases q with q | q | q
    · omega
    · omega
    · have := hm _ _ _ q; omega), h1.i 54 0 0 (fun q => by
    rcases q with q | q | q
    · omega
    · omega
    · have := hm _ _ _ q; omega)]
  exact j.2.2.2.1
/-- the class changes the desk's row; nothing new is made -/
theorem zJx.ch1 (j : zJx A B H I σ) (hW : zWf A') (o : zOnly M σ σ1) (hh : σ1.2.2.2 = σ.2.2.2) (hm : ∀ c j k, M c j k → ((c = 7 ∨ c = 24 ∨ c = 25 ∨ 27 ≤ c ∧ c ≤ 29) ∧ j = 0) ∨ c = 30 ∨ (8 ≤ c ∧ c ≤ 13) ∨ (31 ≤ c ∧ c ≤ 52) ∨ (c = 6 ∧ k = 13)) (hx : zX σ σ1) (hR : zRD A' σ1 0) (hC : zCC A' σ1) : zJM A B H I σ1 ∧ zKpp σ σ1 ∧ ∀ (σ2 : zSt) (M2 : Nat → Nat → Nat → Prop), zOnly M2 σ1 σ2 → (∀ c j k, M2 c j k → (55 ≤ c ∧ c ≤ 90) ∨ (c = 54 ∧ ¬ (k = 0 ∨ k = 42 ∨ k = 78))) → zX σ1 σ2 → zRM A' σ2 → zCM A' σ2 → zJ σ2 ∧ zKpp σ1 σ2 :=
  j.ch0 hW (o.mono (fun c j k q => Or.inr (Or.inr q))) (fun c j k q => by have := hm c j k q; omega) (j.2.1.2.2.2.2.2.2.only o (fun i k => ⟨fun q => by have := hm _ _ _ q; omega, fun q => by have := hm _ _ _ q; omega⟩)) hx hR hC
/-- the class changes the desk's row; new things and measures may be made -/
theorem zJx.ch2 (j : zJx A B H I σ) (hW : zWf A') (o : zMad M σ σ1) (hm : ∀ c j k, M c j k → ((c = 7 ∨ 23 ≤ c ∧ c ≤ 29) ∧ j = 0) ∨ c = 30 ∨ (8 ≤ c ∧ c ≤ 13) ∨ (31 ≤ c ∧ c ≤ 52) ∨ (c = 6 ∧ k = 13)) (hx : zX σ σ1) (hR : zRD A' σ1 0) (hC : zCC A' σ1) : zJM A B H I σ1 ∧ zKpp σ σ1 ∧ ∀ (σ2 : zSt) (M2 : Nat → Nat → Nat → Prop), zOnly M2 σ1 σ2 → (∀ c j k, M2 c j k → (55 ≤ c ∧ c ≤ 90) ∨ (c = 54 ∧ ¬ (k = 0 ∨ k = 42 ∨ k = 78))) → zX σ1 σ2 → zRM A' σ2 → zCM A' σ2 → zJ σ2 ∧ zKpp σ1 σ2 :=
  j.ch0 hW o.1 (fun c j k q => by have := hm c j k q; omega) (j.2.1.2.2.2.2.2.2.to o.2.2) hx hR hC
theorem zCC.fgk (c : zCC A σ) (ho : zOnly M σ σ1) (hm : ∀ c j k, M c j k → c ≠ 32 ∧ c ≠ 34 ∧ c ≠ 36 ∧ c ≠ 9) (f : zForg σ1) (hM : aM A ≤ aM A') (hf : ∀ c, afree A' c = afree A c) (hk : ∀ m, m < aM A → mK A' m = mK A m ∧ mP A' m = mP A m ∧ mQ A' m = mQ A m) : zCC A' σ1 :=
  zCC.fg f (c.1.1.only ho (fun j k => ⟨fun q => (hm _ _ _ q).1 rfl, fun q => (hm _ _ _ q).2.1 rfl⟩)) ((c.1.2.1.only ho ⟨fun j k q => (hm _ _ _ q).2.2.1 rfl, fun q => (hm _ _ _ q).2.2.2 rfl⟩).to hM hf hk)
theorem zCC.fgz (c : zCC A σ) (ho : zOnly M σ σ1) (hm : ∀ c j k, M c j k → c ≠ 32 ∧ c ≠ 34) (f : zForg σ1) (hz : zgl σ1 9 0 3 = 0) : zCC A' σ1 :=
  zCC.fg f (c.1.1.only ho (fun j k => ⟨fun q => (hm _ _ _ q).1 rfl, fun q => (hm _ _ _ q).2 rfl⟩)) (zKS.zero hz)
theorem zLdI.same {k : Nat} {v : Bool} {m : Nat} (h : zLdI A σ) (hm : 0 < m) (ho : zOnly M σ σ') (hn : ∀ k, ¬ M 72 0 k ∧ ¬ M 75 0 k ∧ ¬ M 76 0 k) : zLdI (as3 A m k v) σ' := h.to ho (fun k => (hn k).2) (fun x hx hz => by
  rw [ho.i 72 0 x (hn x).1] at hz
  exact ⟨hx, hz, kept_of (fun _ => rfl) (fun c => by unfold afree aWl; rw [as3_ne (by omega)]; rfl) rfl rfl rfl⟩)
end zGr1
section zGr2
variable {d d2 : Nat} {σ : zSt} {K : Int32 → Int32 → zSt → Prop}
theorem G_put (hJ : zJ σ) (a e : Int32) (hK : ∀ x s, zJ s → zKpp σ s → K x x s) : zCi true (d + 3) 0 0 M_X11_put [.inr (.inr (6, 0)), .inl (a), .inl (e)] σ (fun x s1 => zKpp σ s1 ∧ zCi true (d2 + 3) 0 0 M_X12_put [.inr (.inr (54, 0)), .inl (a), .inl (e)] s1 (fun y s2 => K x y s2)) := by
  obtain ⟨A, B, H, I, j⟩ := hJ
  have j : zJx A B H I σ := j
  have yes : ∀ {z : Int}, (z = -9 ∨ ∃ c : Nat, z = (c : Int) ∧ acell A c = true) → (iI z = -9 ∨ acI A (iI z) = true) := fun {z} h => by
    rcases h with h | ⟨c, h, hc⟩
    · exact Or.inl (by rw [h]; rfl)
    · exact Or.inr (by rw [h]; exact acI_yes (acell_64 hc) hc)
  refine zCi.x (O_X11_put j.W j.D a e (fun h _ => ⟨zKpp.rf, O_X12_put j.W j.R a e (fun _ => hK _ _ j.J zKpp.rf) (fun t ht q z qz hz => absurd ⟨by rw [q]; exact tI_of j.W ht, by rw [qz]; exact yes hz⟩ h)⟩) (fun t ht q z qz hz σ1 r1 o1 h1 hx => ?_))
  have sa := sm_as2 A t z
  have hWf : zWf (as2 A 3 t z) := sa.t_wf j.W (fun u hu => by
    by_cases e : u = t
    · rw [show aMp (as2 A 3 t z) u = z by simp [aMp, as2, e]]; exact hz
    · rw [show aMp (as2 A 3 t z) u = aMp A u by simp [aMp, as2, e]]; exact (j.W.2.1 u hu).2.2.2.2.2.2.2.1) (fun _ => by simp [aMo, as2]) (fun _ => by simp [aTi, as2])
  obtain ⟨m1, k1, nx⟩ := j.ch1 hWf o1 h1 (fun c i k q => by omega) hx r1 ((j.2.1.2.1.only o1 (fun c i k q => by omega)).sa sa (fun _ => rfl) rfl)
  refine ⟨k1, zCi.x (O_X12_put j.W m1.1 a e (fun h => absurd ⟨by rw [q]; exact tI_of j.W ht, by rw [qz]; exact yes hz⟩ h) (fun u hu q2 w qw hw σ2 r2 o2 hx2 => ?_))⟩
  have e1 := nI_i (q.symm.trans q2) (tI_lt j.W ht) (tI_lt j.W hu)
  subst e1
  have rz : ∀ {z : Int}, (z = -9 ∨ ∃ c : Nat, z = (c : Int) ∧ acell A c = true) → -9 ≤ z ∧ z < 64 := fun {z} h => by
    rcases h with h | ⟨c, h, hc⟩
    · omega
    · have := acell_64 hc; omega
  have e2 : z = w := by
    have h2 := congrArg Int32.toInt (qz.symm.trans qw)
    rw [iI_toInt (by have := rz hz; omega) (by have := rz hz; omega), iI_toInt (by have := rz hw; omega) (by have := rz hw; omega)] at h2
    exact h2
  subst e2
  obtain ⟨jj, k2⟩ := nx σ2 _ o2 (fun c i k q => by omega) hx2 r2 (sa.t_cm (fun _ => rfl) (m1.2.1.only o2 (fun c k q => by unfold zQm at q; omega)))
  exact hK _ _ jj (k1.tr k2)
theorem G_alone {ph : Bool} (hJ : zJ σ) (a : Int32) (ha : a = 0 ∨ a = 1) (hK : ∀ x s, zJ s → zKpp σ s → K x x s) : zCi true (d + 2) 0 0 M_X11_alone [.inr (.inr (6, 0)), .inl (a)] σ (fun x s1 => zKpp σ s1 ∧ zCi ph (d2 + 1) 0 0 M_X12_alone [.inr (.inr (54, 0)), .inl (a)] s1 (fun y s2 => K x y s2)) := by
  obtain ⟨A, B, H, I, j⟩ := hJ
  have j : zJx A B H I σ := j
  refine zCi.x (O_X11_alone j.D a ha (fun σ1 r1 e1 o1 f1 h1 hx => ?_))
  have sa := sm_al A (decide (a = 1))
  have hC := j.2.1.2.1
  have hC' : zCC (as3 A 3 0 (decide (a = 1))) σ1 := by
    by_cases z : aAl A = decide (a = 1)
    · rw [e1 z, as3_self z]; exact hC
    · refine ⟨(hC.1.only o1 ⟨fun j k => ⟨by omega, by omega⟩, fun j k => ⟨by omega, by omega⟩, by omega, by omega, by omega⟩).sa sa, (hC.2.1.on o1 ⟨by omega, by omega⟩).sa sa, (hC.2.2.1.on o1 ⟨by omega, by omega, by omega, fun k => by omega⟩).sa sa (fun t => as3_ne (by omega)), Or.inl (f1 z), (hC.2.2.2.2.only o1 ⟨by omega, fun j e => by omega⟩).sa sa⟩
  obtain ⟨m1, k1, nx⟩ := j.ch1 (wf_as3 (by omega) j.W) o1 h1 (fun c i k q => by omega) hx r1 hC'
  refine ⟨k1, zCi.x (O_X12_alone m1.1 a ha (fun σ2 r2 o2 hx2 => ?_))⟩
  obtain ⟨jj, k2⟩ := nx σ2 _ o2 (fun c i k q => by omega) hx2 r2 (sa.t_cm (fun t => as3_ne (by omega)) (m1.2.1.only o2 (fun c k q => by unfold zQm at q; omega)))
  exact hK _ _ jj (k1.tr k2)
theorem G_trust (hJ : zJ σ) (a e : Int32) (he : e = 0 ∨ e = 1) (hK : ∀ x s, zJ s → zKpp σ s → K x x s) : zCi true (d + 3) 0 0 M_X11_trust [.inr (.inr (6, 0)), .inl (a), .inl (e)] σ (fun x s1 => zKpp σ s1 ∧ zCi true (d2 + 3) 0 0 M_X12_trust [.inr (.inr (54, 0)), .inl (a), .inl (e)] s1 (fun y s2 => K x y s2)) := by
  obtain ⟨A, B, H, I, j⟩ := hJ
  have j : zJx A B H I σ := j
  refine zCi.x (O_X11_trust j.W j.D a e he (fun h _ => ⟨zKpp.rf, O_X12_trust j.W j.R a e he (fun _ => hK _ _ j.J zKpp.rf) (fun t ht q => absurd (by rw [q]; exact tI_of j.W ht) h)⟩) (fun t ht q σ1 r1 e1 f1 h1 hx => ?_))
  have sa := sm_tr A t (decide (e = 1))
  have hC := j.2.1.2.1
  have o1 : zOnly (fun c j k => (c = 7 ∧ j = 0 ∧ k = 7) ∨ (c = 10 ∧ k = 7)) σ σ1 := by
    by_cases z : aTr A t = decide (e = 1)
    · rw [e1 z]; exact zOnly.rf
    · exact (f1 z).2
  have hC' : zCC (as3 A 1 t (decide (e = 1))) σ1 := by
    by_cases z : aTr A t = decide (e = 1)
    · rw [e1 z, as3_self z]; exact hC
    · exact ⟨(hC.1.only o1 ⟨fun j k => ⟨by omega, by omega⟩, fun j k => ⟨by omega, by omega⟩, by omega, by omega, by omega⟩).sa sa, (hC.2.1.on o1 ⟨by omega, by omega⟩).sa sa, fun q => absurd (f1 z).1 q, (hC.2.2.2.1.only o1 ⟨fun k _ => by omega, fun j k => ⟨by omega, by omega, by omega, by omega⟩⟩).sa sa (as3_ne (by omega)), (hC.2.2.2.2.only o1 ⟨by omega, fun j e => by omega⟩).sa sa⟩
  obtain ⟨m1, k1, nx⟩ := j.ch1 (wf_as3 (by omega) j.W) o1 h1 (fun c i k q => by omega) hx r1 hC'
  refine ⟨k1, zCi.x (O_X12_trust j.W m1.1 a e he (fun h => absurd (by rw [q]; exact tI_of j.W ht) h) (fun u hu q2 σ2 r2 o2 z2 hx2 => ?_))⟩
  have e2 := nI_i (q.symm.trans q2) (tI_lt j.W ht) (tI_lt j.W hu)
  subst e2
  have c2 : zCM (as3 A 1 t (decide (e = 1))) σ2 := by
    obtain ⟨c1, c2, c3, c4⟩ := m1.2.1
    refine ⟨c1.same (by omega) o2 (fun k => ⟨by omega, by omega, by omega⟩), fun hz u hu => ?_, fun hz => ?_, fun hz => absurd z2 hz⟩
    · rw [o2.i 54 0 25 (by omega)] at hz
      rw [sa.t_N] at hu
      rw [sa.t_mO, show gB (as3 A 1 t (decide (e = 1))) (mO A) u = gB A (mO A) u from funext (sa.t_gB _ u)]
      exact (by have := c2 hz u hu; rw [o2.l 79 0 u (by omega)]; exact this)
    · rw [o2.i 54 0 26 (by omega)] at hz
      rw [sa.t_lqN, sa.t_M, o2.i 54 0 35 (by omega)]
      simp only [sa.t_lqB]
      exact ⟨(c3 hz).1, fun m hm => by rw [o2.i 80 0 m (by omega)]; exact (c3 hz).2 m hm⟩
  obtain ⟨jj, k2⟩ := nx σ2 _ o2 (fun c i k q => by omega) hx2 r2 c2
  exact hK _ _ jj (k1.tr k2)
theorem G_turn (hJ : zJ σ) (a e : Int32) (he : e = 0 ∨ e = 1) (hK : ∀ x s, zJ s → zKpp σ s → K x x s) : zCi true (d + 3) 0 0 M_X11_turn [.inr (.inr (6, 0)), .inl (a), .inl (e)] σ (fun x s1 => zKpp σ s1 ∧ zCi true (d2 + 3) 0 0 M_X12_turn [.inr (.inr (54, 0)), .inl (a), .inl (e)] s1 (fun y s2 => K x y s2)) := by
  obtain ⟨A, B, H, I, j⟩ := hJ
  have j : zJx A B H I σ := j
  refine zCi.x (O_X11_turn j.W j.D a e he (fun h _ => ⟨zKpp.rf, O_X12_turn j.W j.R a e he (fun _ => hK _ _ j.J zKpp.rf) (fun t ht q => absurd (by rw [q]; exact mI_of j.W ht) h)⟩) (fun t ht q σ1 r1 e1 f1 h1 hx => ?_))
  have hC := j.2.1.2.1
  have o1 : zOnly (fun c j k => (c = 7 ∧ j = 0 ∧ k = 10) ∨ zCh c k) σ σ1 := by
    by_cases z : mO A t = decide (e = 1)
    · rw [e1 z]; exact zOnly.rf
    · exact (f1 z).2
  have hC' : zCC (as3 A 2 t (decide (e = 1))) σ1 := by
    by_cases z : mO A t = decide (e = 1)
    · rw [e1 z, as3_self z]; exact hC
    · exact hC.fgk o1 (fun c j k q => by unfold zCh at q; omega) (f1 z).1 (Nat.le_refl _) (fun c => by unfold afree aWl; rw [as3_ne (by omega)]; rfl) (fun m _ => ⟨rfl, rfl, rfl⟩)
  obtain ⟨m1, k1, nx⟩ := j.ch1 (wf_as3 (by omega) j.W) o1 h1 (fun c i k q => by unfold zCh at q; omega) hx r1 hC'
  refine ⟨k1, zCi.x (O_X12_turn j.W m1.1 a e he (fun h => absurd (by rw [q]; exact mI_of j.W ht) h) (fun u hu q2 σ2 r2 o2 z1 z2 z3 hx2 => ?_))⟩
  have e2 := nI_i (q.symm.trans q2) (mI_lt j.W ht) (mI_lt j.W hu)
  subst e2
  obtain ⟨jj, k2⟩ := nx σ2 _ o2 (fun c i k q => by omega) hx2 r2 (zCM.ch (m1.2.1.1.same (by omega) o2 (fun k => ⟨by omega, by omega, by omega⟩)) z1 z2 z3)
  exact hK _ _ jj (k1.tr k2)
theorem G_wall (hJ : zJ σ) (a e : Int32) (he : e = 0 ∨ e = 1) (hK : ∀ x s, zJ s → zKpp σ s → K x x s) : zCi true (d + 4) 0 0 M_X11_wall [.inr (.inr (6, 0)), .inl (a), .inl (e)] σ (fun x s1 => zKpp σ s1 ∧ zCi true (d2 + 3) 0 0 M_X12_wall [.inr (.inr (54, 0)), .inl (a), .inl (e)] s1 (fun y s2 => K x y s2)) := by
  obtain ⟨A, B, H, I, j⟩ := hJ
  have j : zJx A B H I σ := j
  have eq : ∀ {x y : Nat}, x < 64 → y < 64 → nI x = nI y → x = y := fun h1 h2 h => nI_i h (by omega) (by omega)
  refine zCi.x (O_X11_wall j.W j.D a e he (fun h _ => ⟨zKpp.rf, O_X12_wall j.W j.R a e he (fun _ => hK _ _ j.J zKpp.rf) (fun c hc hc2 q _ => absurd (by rw [q]; exact acI_yes hc hc2) h) (fun c hc hc2 q _ => absurd (by rw [q]; exact acI_yes hc hc2) h)⟩) (fun c hc hc2 q an _ => ⟨zKpp.rf, O_X12_wall j.W j.R a e he (fun h => absurd (by rw [q]; exact acI_yes hc hc2) h) (fun _ _ _ _ _ => hK _ _ j.J zKpp.rf) (fun x hx hx2 q2 an2 => ?_)⟩) (fun t ht hc2 q an σ1 r1 e1 f1 h1 hx => ?_))
  · have := eq hc hx (q.symm.trans q2)
    subst this
    rw [an] at an2
    exact absurd an2 (by decide)
  have hC := j.2.1.2.1
  have o1 : zOnly (fun c j k => (c = 7 ∧ j = 0 ∧ k = 2) ∨ zCh c k ∨ c = 9 ∧ k = 3) σ σ1 := by
    by_cases z : aWl A t = decide (e = 1)
    · rw [e1 z]; exact zOnly.rf
    · exact (f1 z).2.2
  have hC' : zCC (as3 A 0 t (decide (e = 1))) σ1 := by
    by_cases z : aWl A t = decide (e = 1)
    · rw [e1 z, as3_self z]; exact hC
    · exact hC.fgz o1 (fun c j k q => by unfold zCh at q; omega) (f1 z).1 (f1 z).2.1
  have hWf := wf_wall (v := decide (e = 1)) an j.W
  obtain ⟨m1, k1, nx⟩ := j.ch1 hWf o1 h1 (fun c i k q => by unfold zCh at q; omega) hx r1 hC'
  refine ⟨k1, zCi.x (O_X12_wall j.W m1.1 a e he (fun h => absurd (by rw [q]; exact acI_yes ht hc2) h) (fun x hx hx2 q2 an2 => ?_) (fun u hu hu2 q2 _ σ2 r2 o2 z0 z1 z2 z3 hx2 => ?_))⟩
  · have := eq ht hx (q.symm.trans q2)
    subst this
    rw [an] at an2
    exact absurd an2 (by decide)
  have e2 := eq ht hu (q.symm.trans q2)
  subst e2
  obtain ⟨jj, k2⟩ := nx σ2 _ o2 (fun c i k q => by unfold zFl at q; omega) hx2 r2 (zCM.ch (zLdI.zero hWf z0) z1 z2 z3)
  exact hK _ _ jj (k1.tr k2)
end zGr2
