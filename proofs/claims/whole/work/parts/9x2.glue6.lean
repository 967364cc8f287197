/-! calls that change the desk (2): both sides -/
section zGr3
variable {σ σ' σ1 : zSt} {A A' : zAb} {M : Nat → Nat → Nat → Prop}
theorem mvS_kp (A : zAb) (r : Nat) : ∀ k, (∀ c, afree (mvS A r k) c = afree A c) ∧ ∀ m, m < aM A → mK (mvS A r k) m = mK A m ∧ mP (mvS A r k) m = mP A m ∧ mQ (mvS A r k) m = mQ A m
  | 0 => ⟨fun _ => rfl, fun _ _ => ⟨rfl, rfl, rfl⟩⟩
  | k + 1 => by
    obtain ⟨i1, i2⟩ := mvS_kp A r k
    unfold mvS
    split
    · exact ⟨fun c => by rw [tp_free]; exact i1 c, fun m hm => by rw [tp_mK, tp_mP, tp_mQ]; exact i2 m hm⟩
    · next hk =>
      have e : aM (aThing (mvS A r k) 0 (-9) (aV A) k) = aM A + (k - 1) := by rw [tp_M, mvS_M]
      exact ⟨fun c => by rw [ms_free, tp_free]; exact i1 c, fun m hm => by rw [ms_mK, ms_mP, ms_mQ, if_neg (by omega), if_neg (by omega), if_neg (by omega), tp_mK, tp_mP, tp_mQ]; exact i2 m hm⟩
theorem aMover_kp (A : zAb) (n r : Nat) : (∀ c, afree (aMover A n r) c = afree A c) ∧ ∀ m, m < aM A → mK (aMover A n r) m = mK A m ∧ mP (aMover A n r) m = mP A m ∧ mQ (aMover A n r) m = mQ A m := by
  obtain ⟨h1, h2⟩ := mvS_kp A r n
  refine ⟨fun c => h1 c, fun m hm => ?_⟩
  obtain ⟨q1, q2, q3⟩ := h2 m hm
  exact ⟨by rw [← q1]; simp [mK, aMover, aMv], by rw [← q2]; simp [mP, aMover, aMv], by rw [← q3]; simp [mQ, aMover, aMv]⟩
theorem measF_lt {a b c p q : Int32} (h : (measF A a b c p q).1 < 0) : (measF A a b c p q).2 = A := by
  unfold measF at h ⊢
  split
  · rfl
  · next h1 =>
    rw [if_neg h1] at h
    split
    · rfl
    · next h2 =>
      rw [if_neg h2] at h
      split
      · rfl
      · next h3 =>
        rw [if_neg h3] at h
        exact absurd h (by show ¬ ((aM A : Int) < 0); omega)
theorem zCC.me {a b c p q : Int32} (h : zCC A σ) (o : zMad zQme σ σ') (h1 : (measF A a b c p q).1 < 0 → σ' = σ) (h2 : 0 ≤ (measF A a b c p q).1 → zForg σ') : zCC (measF A a b c p q).2 σ' := by
  by_cases z : (measF A a b c p q).1 < 0
  · rw [measF_lt z, h1 z]; exact h
  · have hf := h2 (by omega)
    have kp : aM A ≤ aM (measF A a b c p q).2 ∧ (∀ x, afree (measF A a b c p q).2 x = afree A x) ∧ ∀ m, m < aM A → mK (measF A a b c p q).2 m = mK A m ∧ mP (measF A a b c p q).2 m = mP A m ∧ mQ (measF A a b c p q).2 m = mQ A m := by
      unfold measF
      split
      · exact ⟨Nat.le_refl _, fun _ => rfl, fun _ _ => ⟨rfl, rfl, rfl⟩⟩
      · split
        · exact ⟨Nat.le_refl _, fun _ => rfl, fun _ _ => ⟨rfl, rfl, rfl⟩⟩
        · split
          · exact ⟨Nat.le_refl _, fun _ => rfl, fun _ _ => ⟨rfl, rfl, rfl⟩⟩
          · exact ⟨by rw [ms_M]; omega, fun _ => ms_free _, fun m hm => by rw [ms_mK, ms_mP, ms_mQ, if_neg (by omega), if_neg (by omega), if_neg (by omega)]; exact ⟨rfl, rfl, rfl⟩⟩
    exact h.fgk o.1 (fun c j k q => by unfold zQme zCh at q; omega) hf kp.1 kp.2.1 kp.2.2
end zGr3
section zGr4
variable {d d2 : Nat} {σ : zSt} {K : Int32 → Int32 → zSt → Prop}
theorem G_field (hJ : zJ σ) (a e : Int32) (hK : ∀ x s, zJ s → zKpp σ s → K x x s) : zCi true (d + 4) 0 0 M_X11_field [.inr (.inr (6, 0)), .inl (a), .inl (e)] σ (fun x s1 => zKpp σ s1 ∧ zCi true (d2 + 3) 0 0 M_X12_field [.inr (.inr (54, 0)), .inl (a), .inl (e)] s1 (fun y s2 => K x y s2)) := by
  obtain ⟨A, B, H, I, j⟩ := hJ
  have j : zJx A B H I σ := j
  have yes : ∀ {w : Nat} {x : Int32}, 1 ≤ w ∧ w ≤ 8 → x = nI w → 1 ≤ x.toInt ∧ x.toInt ≤ 8 := fun {w x} h q => by rw [q, nI_toInt (by omega)]; omega
  refine zCi.x (O_X11_field (A := A) a e (fun h _ => ⟨zKpp.rf, zCi.x (O_X12_field (A := A) a e (fun _ _ => hK _ _ j.J zKpp.rf) (fun w g hw hg q1 q2 => absurd ⟨yes hw q1, yes hg q2⟩ h))⟩) (fun w g hw hg q1 q2 σ1 r1 f1 z1 o1 h1 hx => ?_))
  have hWf := fd_wf (A := A) hw hg
  obtain ⟨m1, k1, nx⟩ := j.ch1 hWf o1 h1 (fun c i k q => by unfold zQfd zCh at q; omega) hx r1 (j.2.1.2.1.fgz o1 (fun c j k q => by unfold zQfd zCh at q; omega) f1 z1)
  refine ⟨k1, zCi.x (O_X12_field (A := A) a e (fun h => absurd ⟨yes hw q1, yes hg q2⟩ h) (fun u v hu hv q3 q4 σ2 r2 o2 z0 z2 z3 z4 hx2 => ?_))⟩
  have e1 : w = u := nI_i (q1.symm.trans q3) (by omega) (by omega)
  have e2 : g = v := nI_i (q2.symm.trans q4) (by omega) (by omega)
  subst e1 e2
  obtain ⟨jj, k2⟩ := nx σ2 _ o2 (fun c i k q => by unfold zFm at q; omega) hx2 r2 (zCM.ch (zLdI.zero hWf z0) z2 z3 z4)
  exact hK _ _ jj (k1.tr k2)
theorem G_box (hJ : zJ σ) (a b c e f : Int32) (hK : ∀ x s, zJ s → zKpp σ s → K x x s) : zCi true (d + 3) 0 0 M_X11_box [.inr (.inr (6, 0)), .inl (a), .inl (b), .inl (c), .inl (e), .inl (f)] σ (fun x s1 => zKpp σ s1 ∧ zCi true (d2 + 5) 0 0 M_X12_box [.inr (.inr (54, 0)), .inl (a), .inl (b), .inl (c), .inl (e), .inl (f)] s1 (fun y s2 => K x y s2)) := by
  obtain ⟨A, B, H, I, j⟩ := hJ
  have j : zJx A B H I σ := j
  have eq : ∀ {t u}, t < aN A → u < aN A → a = nI t → a = nI u → t = u := fun ht hu q1 q2 => nI_i (q1.symm.trans q2) (tI_lt j.W ht) (tI_lt j.W hu)
  have sp : ∀ {x1 x2 : Nat} {p q : Int32}, p = nI x1 → q = nI x2 → x1 ≤ x2 → x2 ≤ 7 → spI p q := fun {x1 x2 p q} q1 q2 h1 h2 => by
    unfold spI
    rw [q1, q2, nI_toInt (by omega), nI_toInt (by omega)]
    omega
  refine zCi.x (O_X11_box j.W j.D a b c e f (fun h _ => ⟨zKpp.rf, ?_⟩) (fun t ht q hk _ => ⟨zKpp.rf, ?_⟩) (fun t ht q hk hs _ => ⟨zKpp.rf, ?_⟩) (fun t x1 y1 x2 y2 ht q hk e1 e2 e3 e4 l1 l2 l3 l4 σ1 r1 f1 o1 h1 hx => ?_))
  · have no : ∀ {t}, t < aN A → a = nI t → False := fun ht q => h (by rw [q]; exact tI_of j.W ht)
    exact O_X12_box j.W j.R j.C a b c e f (fun _ => hK _ _ j.J zKpp.rf) (fun t ht q => (no ht q).elim) (fun t ht q => (no ht q).elim) (fun t _ _ _ _ ht q => (no ht q).elim)
  · exact O_X12_box j.W j.R j.C a b c e f (fun h => absurd (by rw [q]; exact tI_of j.W ht) h) (fun _ _ _ _ => hK _ _ j.J zKpp.rf) (fun u hu q2 hk2 => (by rw [eq ht hu q q2] at hk; omega)) (fun u _ _ _ _ hu q2 hk2 => (by rw [eq ht hu q q2] at hk; omega))
  · exact O_X12_box j.W j.R j.C a b c e f (fun h => absurd (by rw [q]; exact tI_of j.W ht) h) (fun u hu q2 hk2 => (by rw [eq ht hu q q2] at hk; omega)) (fun _ _ _ _ _ => hK _ _ j.J zKpp.rf) (fun u x1 y1 x2 y2 hu q2 hk2 e1 e2 e3 e4 l1 l2 l3 l4 => absurd ⟨sp e1 e3 l1 l2, sp e2 e4 l3 l4⟩ hs)
  have hWf : zWf (aBox A t x1 y1 x2 y2) := bx_wf j.W ⟨l1, l2⟩ ⟨l3, l4⟩
  obtain ⟨m1, k1, nx⟩ := j.ch1 hWf o1 h1 (fun c i k q => by unfold zCh at q; omega) hx r1 (j.2.1.2.1.fgk o1 (fun c j k q => by unfold zCh at q; omega) f1 (Nat.le_refl _) (fun _ => rfl) (fun m _ => ⟨bx_ne (by omega), bx_ne (by omega), bx_ne (by omega)⟩))
  refine ⟨k1, zCi.x (O_X12_box j.W m1.1 m1.2.1 a b c e f (fun h => absurd (by rw [q]; exact tI_of j.W ht) h) (fun u hu q2 hk2 => (by rw [eq ht hu q q2] at hk; omega)) (fun u hu q2 _ hs => absurd ⟨sp e1 e3 l1 l2, sp e2 e4 l3 l4⟩ hs) (fun u v1 w1 v2 w2 hu q2 hk2 e5 e6 e7 e8 n1 n2 n3 n4 σ2 r2 c2 o2 hx2 => ?_))⟩
  have e0 := eq ht hu q q2
  have g1 : x1 = v1 := nI_i (e1.symm.trans e5) (by omega) (by omega)
  have g2 : y1 = w1 := nI_i (e2.symm.trans e6) (by omega) (by omega)
  have g3 : x2 = v2 := nI_i (e3.symm.trans e7) (by omega) (by omega)
  have g4 : y2 = w2 := nI_i (e4.symm.trans e8) (by omega) (by omega)
  subst e0 g1 g2 g3 g4
  obtain ⟨jj, k2⟩ := nx σ2 _ o2 (fun c i k q => by unfold zBq at q; omega) hx2 r2 c2
  exact hK _ _ jj (k1.tr k2)
theorem G_thing (hJ : zJ σ) (a e : Int32) (hK : ∀ x s, zJ s → zKpp σ s → K x x s) : zCi true (d + 3) 1 5 M_X11_thing [.inr (.inr (6, 0)), .inl (a), .inl (e)] σ (fun x s1 => zKpp σ s1 ∧ zCi true (d2 + 3) 0 0 M_X12_thing [.inr (.inr (54, 0)), .inl (a), .inl (e)] s1 (fun y s2 => K x y s2)) := by
  obtain ⟨A, B, H, I, j⟩ := hJ
  have j : zJx A B H I σ := j
  have fr : (∃ x, x < 64 ∧ e = nI x ∧ afree A x = true) → acI A e = true ∧ ∀ y, y < 64 → e = nI y → aWl A y = true → False := fun ⟨x, hx, q, hf⟩ => by
    unfold afree at hf
    rw [Bool.and_eq_true, Bool.not_eq_true'] at hf
    refine ⟨by rw [q]; exact acI_yes hx hf.1, fun y hy q2 hw => ?_⟩
    have e2 : x = y := nI_i (q.symm.trans q2) (by omega) (by omega)
    rw [e2, hw] at hf
    exact absurd hf.2 (by decide)
  have ky : ∀ {k : Nat}, k ≤ 2 → a = nI k → a.toInt = k := fun {k} hk q => by rw [q, nI_toInt (by omega)]
  refine zCi.x (O_X11_thing j.W j.D a e (fun h _ => ⟨zKpp.rf, ?_⟩) (fun h1 h2 _ => ⟨zKpp.rf, ?_⟩) (fun x h1 hx q hc hw _ => ⟨zKpp.rf, ?_⟩) (fun h1 fx hN _ => ⟨zKpp.rf, ?_⟩) (fun k hk q fx hN σ1 r1 o1 f1 hx => ?_))
  · exact O_X12_thing j.W j.R a e (fun _ => hK _ _ j.J zKpp.rf) (fun h2 => absurd ⟨by omega, h2.2⟩ h) (fun x h2 => absurd ⟨by omega, h2.2⟩ h) (fun h2 => absurd h2 h) (fun k hk q => absurd (by rw [ky hk q]; omega) h)
  · exact O_X12_thing j.W j.R a e (fun h => absurd ⟨by omega, h1.2⟩ h) (fun _ _ => hK _ _ j.J zKpp.rf) (fun x _ hx q hc _ => absurd (by rw [q]; exact acI_yes hx hc) h2) (fun _ fx => absurd (fr (fx h1.1)).1 h2) (fun k hk q fx => absurd (fr (fx (by have := ky hk q; omega))).1 h2)
  · exact O_X12_thing j.W j.R a e (fun h => absurd ⟨by omega, h1.2⟩ h) (fun _ h2 => absurd (by rw [q]; exact acI_yes hx hc) h2) (fun _ _ _ _ _ _ => hK _ _ j.J zKpp.rf) (fun _ fx => ((fr (fx h1.1)).2 x hx q hw).elim) (fun k hk q2 fx => ((fr (fx (by have := ky hk q2; omega))).2 x hx q hw).elim)
  · exact O_X12_thing j.W j.R a e (fun h => absurd h1 h) (fun h2 h3 => absurd (fr (fx h2.1)).1 h3) (fun x h2 hx q _ hw => ((fr (fx h2.1)).2 x hx q hw).elim) (fun _ _ _ => hK _ _ j.J zKpp.rf) (fun k hk q fx hN2 => absurd hN (by omega))
  have hWf : zWf (aThing A k e.toInt (-9) (-9)) := tp_wf j.W hN hk (fun hp => by
    obtain ⟨x, hx, q2, hf⟩ := fx hp
    exact ⟨x, by rw [q2, nI_toInt (by omega)], hf⟩) (Or.inl rfl) (Or.inl rfl)
  obtain ⟨m1, k1, nx⟩ := j.ch2 hWf o1 (fun c i k q => by unfold zQth zCh at q; omega) hx r1 (j.2.1.2.1.fgk o1.1 (fun c j k q => by unfold zQth zCh at q; omega) f1 (Nat.le_refl _) tp_free (fun m _ => ⟨tp_mK m, tp_mP m, tp_mQ m⟩))
  refine ⟨k1, zCi.x (O_X12_thing j.W m1.1 a e (fun h => absurd (by rw [ky hk q]; omega) h) (fun h2 h3 => absurd (fr (fx (by have := ky hk q; omega))).1 h3) (fun x h2 hx q2 _ hw => ((fr (fx (by have := ky hk q; omega))).2 x hx q2 hw).elim) (fun _ _ h4 => absurd h4 (by omega)) (fun k2 hk2 q2 fx2 hN2 σ2 r2 o2 z1 z2 z3 hx2 => ?_))⟩
  have e0 : k = k2 := nI_i (q.symm.trans q2) (by omega) (by omega)
  subst e0
  obtain ⟨jj, k2⟩ := nx σ2 _ o2 (fun c i k q => by unfold zTm at q; omega) hx2 r2 (zCM.ch (m1.2.1.1.thing o2) z1 z2 z3)
  exact hK _ _ jj (k1.tr k2)
theorem G_measure (hJ : zJ σ) (a b c p q : Int32) (hK : ∀ x s, zJ s → zKpp σ s → K x x s) : zCi true (d + 3) 1 6 M_X11_measure [.inr (.inr (6, 0)), .inl (a), .inl (b), .inl (c), .inl (p), .inl (q)] σ (fun x s1 => zKpp σ s1 ∧ zCi true (d2 + 3) 0 0 M_X12_measure [.inr (.inr (54, 0)), .inl (a), .inl (b), .inl (c), .inl (p), .inl (q)] s1 (fun y s2 => K x y s2)) := by
  obtain ⟨A, B, H, I, j⟩ := hJ
  have j : zJx A B H I σ := j
  refine zCi.x (S_X11_measure j.W j.D a b c p q (fun σ1 r1 o1 e1 f1 hx => ?_))
  obtain ⟨m1, k1, nx⟩ := j.ch2 (measF_wf j.W a b c p q) o1 (fun c i k q => by unfold zQme zCh at q; omega) hx r1 (j.2.1.2.1.me o1 e1 f1)
  refine ⟨k1, zCi.x (S_X12_measure j.W m1.1 m1.2.1 a b c p q (fun σ2 r2 c2 o2 hx2 => ?_))⟩
  obtain ⟨jj, k2⟩ := nx σ2 _ o2 (fun c i k q => by unfold zMq at q; omega) hx2 r2 c2
  exact hK _ _ jj (k1.tr k2)
theorem G_mover (hJ : zJ σ) (a e : Int32) (hK : ∀ x s, zJ s → zKpp σ s → K x x s) : zCi true (d + 4) 16 88 M_X11_mover [.inr (.inr (6, 0)), .inl (a), .inl (e)] σ (fun x s1 => zKpp σ s1 ∧ zCi true (d2 + 3) 0 0 M_X12_mover [.inr (.inr (54, 0)), .inl (a), .inl (e)] s1 (fun y s2 => K x y s2)) := by
  obtain ⟨A, B, H, I, j⟩ := hJ
  have j : zJx A B H I σ := j
  have yes : ∀ {n r : Nat}, 2 ≤ n → n ≤ 8 → r ≤ 98 → a = nI n → e = nI r → ((2 ≤ a.toInt ∧ a.toInt ≤ 8) ∧ 0 ≤ e.toInt ∧ e.toInt ≤ 98) := fun {n r} h1 h2 h3 q1 q2 => by rw [q1, q2, nI_toInt (by omega), nI_toInt (by omega)]; omega
  refine zCi.x (O_X11_mover j.W j.D a e (fun h _ => ⟨zKpp.rf, O_X12_mover j.W j.R j.C a e (fun _ => hK _ _ j.J zKpp.rf) (fun n r h1 h2 h3 q1 q2 => absurd (yes h1 h2 h3 q1 q2) h) (fun n r h1 h2 h3 q1 q2 => absurd (yes h1 h2 h3 q1 q2) h)⟩) (fun n r h1 h2 h3 q1 q2 hf _ => ⟨zKpp.rf, O_X12_mover j.W j.R j.C a e (fun h => absurd (yes h1 h2 h3 q1 q2) h) (fun _ _ _ _ _ _ _ _ => hK _ _ j.J zKpp.rf) (fun n2 r2 h4 h5 h6 q3 q4 g1 g2 g3 => ?_)⟩) (fun n r h1 h2 h3 q1 q2 g1 g2 g3 σ1 r1 o1 f1 hx => ?_))
  · have e1 : n = n2 := nI_i (q1.symm.trans q3) (by omega) (by omega)
    subst e1
    omega
  have hWf := aMover_wf j.W h3 g1 ⟨h1, h2⟩ g2 g3
  have kp := aMover_kp A n r
  have hM : aM A ≤ aM (aMover A n r) := by
    show aM A ≤ aM (mvS A r n)
    rw [mvS_M]
    omega
  obtain ⟨m1, k1, nx⟩ := j.ch2 hWf o1 (fun c i k q => by unfold zQmo zCh at q; omega) hx r1 (j.2.1.2.1.fgk o1.1 (fun c j k q => by unfold zQmo zCh at q; omega) f1 hM kp.1 kp.2)
  refine ⟨k1, zCi.x (O_X12_mover j.W m1.1 m1.2.1 a e (fun h => absurd (yes h1 h2 h3 q1 q2) h) (fun n2 r2 h4 h5 h6 q3 q4 hf => ?_) (fun n2 s2 h4 h5 h6 q3 q4 _ _ _ σ2 r2 c2 o2 hx2 => ?_))⟩
  · have e1 : n = n2 := nI_i (q1.symm.trans q3) (by omega) (by omega)
    subst e1
    omega
  have e1 : n = n2 := nI_i (q1.symm.trans q3) (by omega) (by omega)
  have e2 : r = s2 := nI_i (q2.symm.trans q4) (by omega) (by omega)
  subst e1 e2
  obtain ⟨jj, k2⟩ := nx σ2 _ o2 (fun c i k q => by unfold zVq at q; omega) hx2 r2 c2
  exact hK _ _ jj (k1.tr k2)
theorem G_take (hJ : zJ σ) (a e : Int32) (hK : ∀ x s, zJ s → zKpp σ s → K x x s) : zCi true (d + 15) 0 0 M_X11_take [.inr (.inr (6, 0)), .inl (a), .inl (e)] σ (fun x s1 => zKpp σ s1 ∧ zCi true (d2 + 11) 0 0 M_X12_take [.inr (.inr (54, 0)), .inl (a), .inl (e)] s1 (fun y s2 => K x y s2)) := by
  obtain ⟨A, B, H, I, j⟩ := hJ
  have j : zJx A B H I σ := j
  have yes : ∀ {t n : Nat}, t < aN A → a = nI t → e = nI n → n < 2147483648 → (tI A a = true ∧ 0 ≤ e.toInt) := fun ht q1 q2 h => ⟨by rw [q1]; exact tI_of j.W ht, by rw [q2, nI_toInt (by omega)]; omega⟩
  have rf : ∀ {t n : Nat} {σ1 : zSt} {P : Prop}, t < aN A → a = nI t → e = nI n → n < 2147483648 → (∀ u m, u < aN A → a = nI u → e = nI m → m < 2147483648 → (t = u ∧ n = m → P)) → (∀ u m, u < aN A → a = nI u → e = nI m → m < 2147483648 → P) := fun ht q1 q2 h f u m hu q3 q4 h2 => f u m hu q3 q4 h2 ⟨nI_i (q1.symm.trans q3) (tI_lt j.W ht) (tI_lt j.W hu), nI_i (q2.symm.trans q4) (by omega) (by omega)⟩
  refine zCi.x (O_X11_take j.W j.D j.cR j.cP a e (fun h _ => ⟨zKpp.rf, zCi.x (O_X12_take j.W j.R j.C a e (fun _ _ => hK _ _ j.J zKpp.rf) (fun t n ht q1 q2 h2 => absurd (yes ht q1 q2 h2) h))⟩) (fun t n ht q1 q2 hn => ⟨fun sp σ1 o1 h1 c1 p1 hx => ?_, fun sp => ⟨fun hl σ1 o1 h1 c1 p1 hx => ?_, fun s hs σ1 o1 h1 c1 p1 r1 hx => ?_⟩⟩))
  · obtain ⟨j1, k1⟩ := j.cpl o1 h1 c1 p1 hx
    refine ⟨k1, zCi.x (O_X12_take j1.W j1.R j1.C a e (fun h => absurd (yes ht q1 q2 hn) h) (fun u m hu q3 q4 hm => ?_))⟩
    have e1 := nI_i (q1.symm.trans q3) (tI_lt j.W ht) (tI_lt j.W hu)
    subst e1
    refine ⟨fun _ σ2 o2 c2 hx2 => ?_, fun z => absurd sp z⟩
    obtain ⟨j2, k2⟩ := j1.rsn o2 c2 hx2
    exact hK _ _ j2.J (k1.tr k2)
  · obtain ⟨j1, k1⟩ := j.cpl o1 h1 c1 p1 hx
    refine ⟨k1, zCi.x (O_X12_take j1.W j1.R j1.C a e (fun h => absurd (yes ht q1 q2 hn) h) (fun u m hu q3 q4 hm => ?_))⟩
    have e1 := nI_i (q1.symm.trans q3) (tI_lt j.W ht) (tI_lt j.W hu)
    have e2 : n = m := nI_i (q2.symm.trans q4) (by omega) (by omega)
    subst e1 e2
    refine ⟨fun z => absurd z sp, fun _ => ⟨fun _ σ2 o2 c2 hx2 => ?_, fun s hs => ?_⟩⟩
    · obtain ⟨j2, k2⟩ := j1.rsn o2 c2 hx2
      exact hK _ _ j2.J (k1.tr k2)
    · rw [List.getElem?_eq_none hl] at hs
      exact absurd hs (by simp)
  · have sa : zSa A (aTake A t s) := sm_map A _
    have hC := j.2.1.2.1
    have hCC : zCC A σ1 := ⟨c1, hC.2.1.on o1 ⟨by unfold zQpl; omega, by unfold zQpl; omega⟩, hC.2.2.1.on o1 ⟨by unfold zQpl; omega, by unfold zQpl; omega, by unfold zQpl; omega, fun k => by unfold zQpl; omega⟩, p1, hC.2.2.2.2.only o1 ⟨by unfold zQpl; omega, fun j e => by unfold zQpl; omega⟩⟩
    obtain ⟨m1, k1, nx⟩ := j.ch1 (aTake_wf j.W (List.mem_of_getElem? hs)) o1 h1 (fun c i k q => by unfold zQpl at q; omega) hx r1 (hCC.sa sa (fun _ => rfl) rfl)
    refine ⟨k1, zCi.x (O_X12_take j.W m1.1 m1.2.1 a e (fun h => absurd (yes ht q1 q2 hn) h) (fun u m hu q3 q4 hm => ?_))⟩
    have e1 := nI_i (q1.symm.trans q3) (tI_lt j.W ht) (tI_lt j.W hu)
    have e2 : n = m := nI_i (q2.symm.trans q4) (by omega) (by omega)
    subst e1 e2
    refine ⟨fun z => absurd z sp, fun _ => ⟨fun hl => ?_, fun s2 hs2 σ2 o2 r2 c2 hx2 => ?_⟩⟩
    · rw [List.getElem?_eq_none hl] at hs
      exact absurd hs (by simp)
    · have e3 : s = s2 := Option.some.inj (hs.symm.trans hs2)
      subst e3
      obtain ⟨jj, k2⟩ := nx σ2 _ o2 (fun c i k q => by unfold zSqn zSqq zSq at q; omega) hx2 r2 c2
      exact hK _ _ jj (k1.tr k2)
theorem G_flipped (hJ : zJ σ) (a e : Int32) (hK : ∀ x s, zJ s → zKpp σ s → K x x s) : zCi true (d + 8) 0 0 M_X11_flipped [.inr (.inr (6, 0)), .inl (a), .inl (e)] σ (fun x s1 => zKpp σ s1 ∧ zCi true (d2 + 9) 0 0 M_X12_flipped [.inr (.inr (54, 0)), .inl (a), .inl (e)] s1 (fun y s2 => K x y s2)) := by
  obtain ⟨A, B, H, I, j⟩ := hJ
  have j : zJx A B H I σ := j
  have hN : aN A ≤ 24 := j.W.1.2.2.2.2.1
  have inr : ∀ {t n : Nat} {x}, (flP A t)[n]? = some x → e = nI n → 0 ≤ e.toInt ∧ e.toInt < (flP A t).length ∧ n < 100800 := fun {t n x} h q => by
    have l := (List.getElem?_eq_some_iff.mp h).1
    have := flP_len (g := t) hN
    rw [q, nI_toInt (by omega)]
    omega
  refine zCi.x (O_X11_flipped j.W j.D j.cR j.xt a e (fun h _ => ⟨zKpp.rf, zCi.x (O_X12_flipped j.W j.R j.C a e (fun _ _ => hK _ _ j.J zKpp.rf) (fun t ht q => absurd (by rw [q]; exact tI_of j.W ht) h))⟩) (fun t ht q => ⟨fun σ1 o1 h1 c1 => ⟨fun np hx => ?_, fun pl out hx => ?_⟩, fun pl n x qn hs σ1 o1 h1 c1 r1 hx => ?_⟩))
  · obtain ⟨j1, k1⟩ := j.cfl o1 h1 c1 hx
    refine ⟨k1, zCi.x (O_X12_flipped j1.W j1.R j1.C a e (fun h => absurd (by rw [q]; exact tI_of j.W ht) h) (fun u hu q2 => ?_))⟩
    have e1 := nI_i (q.symm.trans q2) (tI_lt j.W ht) (tI_lt j.W hu)
    subst e1
    exact ⟨fun _ _ => hK _ _ j1.J k1, fun z => absurd z np⟩
  · obtain ⟨j1, k1⟩ := j.cfl o1 h1 c1 hx
    refine ⟨k1, zCi.x (O_X12_flipped j1.W j1.R j1.C a e (fun h => absurd (by rw [q]; exact tI_of j.W ht) h) (fun u hu q2 => ?_))⟩
    have e1 := nI_i (q.symm.trans q2) (tI_lt j.W ht) (tI_lt j.W hu)
    subst e1
    refine ⟨fun z => absurd pl z, fun _ => ⟨fun _ σ2 o2 c2 hx2 => ?_, fun n x qn hs => absurd ⟨(inr hs qn).1, (inr hs qn).2.1⟩ out⟩⟩
    obtain ⟨j2, k2⟩ := j1.ro' o2 c2 hx2
    exact hK _ _ j2.J (k1.tr k2)
  · have sa : zSa A (aFlip A x) := sm_map A _
    have hC := j.2.1.2.1
    have hCC : zCC A σ1 := ⟨c1, hC.2.1.on o1 ⟨by unfold zQff zQfl zQr zQcc z30; omega, by unfold zQff zQfl zQr zQcc z30; omega⟩, hC.2.2.1.on o1 ⟨by unfold zQff zQfl zQr zQcc z30; omega, by unfold zQff zQfl zQr zQcc z30; omega, by unfold zQff zQfl zQr zQcc z30; omega, fun k => by unfold zQff zQfl zQr zQcc z30; omega⟩, hC.2.2.2.1.only o1 ⟨fun k _ => by unfold zQff zQfl zQr zQcc z30; omega, fun j k => ⟨by unfold zQff zQfl zQr zQcc z30; omega, by unfold zQff zQfl zQr zQcc z30; omega, by unfold zQff zQfl zQr zQcc z30; omega, by unfold zQff zQfl zQr zQcc z30; omega⟩⟩, hC.2.2.2.2.only o1 ⟨by unfold zQff zQfl zQr zQcc z30; omega, fun j e => by unfold zQff zQfl zQr zQcc z30; omega⟩⟩
    obtain ⟨m1, k1, nx⟩ := j.ch1 (aFlip_wf j.W x) o1 h1 (fun c i k q => by unfold zQff zQfl zQr zQcc z30 at q; omega) hx r1 (hCC.sa sa (fun _ => rfl) rfl)
    refine ⟨k1, zCi.x (O_X12_flipped j.W m1.1 m1.2.1 a e (fun h => absurd (by rw [q]; exact tI_of j.W ht) h) (fun u hu q2 => ?_))⟩
    have e1 := nI_i (q.symm.trans q2) (tI_lt j.W ht) (tI_lt j.W hu)
    subst e1
    refine ⟨fun z => absurd pl z, fun _ => ⟨fun out => absurd ⟨(inr hs qn).1, (inr hs qn).2.1⟩ out, fun n2 x2 qn2 hs2 σ2 o2 r2 c2 hx2 => ?_⟩⟩
    have e2 : n = n2 := nI_i (qn.symm.trans qn2) (by have := (inr hs qn).2.2; omega) (by have := (inr hs2 qn2).2.2; omega)
    subst e2
    have e3 : x = x2 := Option.some.inj (hs.symm.trans hs2)
    subst e3
    obtain ⟨jj, k2⟩ := nx σ2 _ o2 (fun c i k q => by unfold zQf zQo zQh zQt at q; omega) hx2 r2 c2
    exact hK _ _ jj (k1.tr k2)
theorem G_keep (hJ : zJ σ) (a : Int32) (hK : ∀ x s, zJ s → zKpp σ s → K x x s) : zCi true (d + 2) 0 0 M_X11_keep [.inr (.inr (6, 0)), .inl (a)] σ (fun x s1 => zKpp σ s1 ∧ zCi true (d2 + 2) 0 0 M_X12_keep [.inr (.inr (54, 0)), .inl (a)] s1 (fun y s2 => K x y s2)) := by
  obtain ⟨A, B, H, I, j⟩ := hJ
  have j : zJx A B H I σ := j
  have yes : ∀ {k : Nat}, k < 2 → a = nI k → (a = 0 ∨ a = 1) := fun {k} hk q => by
    rcases (show k = 0 ∨ k = 1 by omega) with rfl | rfl
    · exact Or.inl q
    · exact Or.inr q
  refine zCi.x (O_X11_keep j.W j.D j.2.1.2.2.2.2.2.2 j.2.1.2.2.2.2.2.1 j.1.2.2.2 a (fun h _ => ⟨zKpp.rf, zCi.x (O_X12_keep j.W j.R j.2.2.1.2.2.2.2 j.1.2.2.2 a (fun _ _ => hK _ _ j.J zKpp.rf) (fun k hk q => absurd (yes hk q) h))⟩) (fun k hk q σ1 i1 t1 o1 h1 hx => ?_))
  have m1 := j.2.2.1.cl j.1 o1 (fun c i k q => by unfold zQkp at q; omega)
  have w1 : zJW A B H (iSet I k A) := ⟨j.1.1, j.1.2.1, j.1.2.2.1, fun x hx2 z => by
    unfold iSet at z ⊢
    by_cases e : x = k
    · rw [if_pos e]; exact j.1.1
    · rw [if_neg e] at z ⊢; exact j.1.2.2.2 x hx2 z⟩
  have d1 : zJD A B H (iSet I k A) σ1 := ⟨j.D.only o1 h1 (fun c i k q => by unfold zBD at q; unfold zQkp; omega), j.2.1.2.1.only o1 (fun c j k q => by unfold zQkp at q; omega), j.xt.on o1 (fun c j k a b => by unfold zQkp; omega), j.2.1.2.2.2.1.only o1 (fun j k => ⟨by unfold zQkp; omega, by unfold zQkp; omega⟩), j.2.1.2.2.2.2.1.only o1 h1 (fun j k => ⟨by unfold zQkp; omega, by unfold zQkp; omega, by unfold zQkp; omega, by unfold zQkp; omega⟩), i1, t1⟩
  have e1 := j.2.2.2.cl o1 (fun c j k q => by unfold zQkp at q; omega)
  have k1 : zKpp σ σ1 := zKpp.cl o1 hx (fun k => by unfold zQkp; omega)
  refine ⟨k1, zCi.x (O_X12_keep j.W m1.1 m1.2.2.2.2 j.1.2.2.2 a (fun h => absurd (yes hk q) h) (fun k2 hk2 q2 σ2 i2 o2 hx2 => ?_))⟩
  have e0 : k = k2 := nI_i (q.symm.trans q2) (by omega) (by omega)
  subst e0
  exact hK _ _ ⟨A, B, H, iSet I k A, w1, d1.rf w1 o2 hx2 (fun c j k q => by omega), ⟨m1.1.only o2 (fun c k q => by unfold zBM at q; omega), m1.2.1.only o2 (fun c k q => by unfold zQm at q; omega), m1.2.2.1.only w1.2.1 o2 (fun k => ⟨by omega, by omega, by omega⟩), m1.2.2.2.1.only o2 (fun k => ⟨by omega, by omega, by omega, by omega, by omega⟩), i2⟩, e1.rf o2 (fun c j k q => by omega)⟩ (k1.tr (zKpp.cl o2 hx2 (fun k => by omega)))
theorem G_back (hJ : zJ σ) (a : Int32) (hK : ∀ x s, zJ s → zKpp σ s → K x x s) : zCi true (d + 4) 0 0 M_X11_back [.inr (.inr (6, 0)), .inl (a)] σ (fun x s1 => zKpp σ s1 ∧ zCi true (d2 + 3) 0 0 M_X12_back [.inr (.inr (54, 0)), .inl (a)] s1 (fun y s2 => K x y s2)) := by
  obtain ⟨A, B, H, I, j⟩ := hJ
  have j : zJx A B H I σ := j
  have yes : ∀ {k : Nat}, k < 2 → a = nI k → (a = 0 ∨ a = 1) := fun {k} hk q => by
    rcases (show k = 0 ∨ k = 1 by omega) with rfl | rfl
    · exact Or.inl q
    · exact Or.inr q
  have eq : ∀ {x y : Nat}, x < 2 → y < 2 → a = nI x → a = nI y → x = y := fun hx hy q1 q2 => nI_i (q1.symm.trans q2) (by omega) (by omega)
  refine zCi.x (O_X11_back j.2.1.2.2.2.2.2.2 j.2.1.2.2.2.2.2.1 j.1.2.2.2 a (fun h _ => ⟨zKpp.rf, zCi.x (O_X12_back j.2.2.1.2.2.2.2 j.1.2.2.2 a (fun _ _ => hK _ _ j.J zKpp.rf) (fun k hk q => absurd (yes hk q) h) (fun k hk q => absurd (yes hk q) h))⟩) (fun k hk q hf _ => ⟨zKpp.rf, zCi.x (O_X12_back j.2.2.1.2.2.2.2 j.1.2.2.2 a (fun h => absurd (yes hk q) h) (fun _ _ _ _ _ => hK _ _ j.J zKpp.rf) (fun k2 hk2 q2 ht => ?_))⟩) (fun k hk q ht σ1 r1 f1 z1 t1 o1 h1 hx => ?_))
  · rw [← eq hk hk2 q q2, hf] at ht
    exact absurd ht (by decide)
  obtain ⟨m1, k1, nx⟩ := j.ch0 (j.1.2.2.2 k hk ht) (o1.mono (fun c j k q => Or.inr (Or.inr q))) (fun c i k q => by unfold zQbk zCh at q; omega) t1 hx r1 (j.2.1.2.1.fgz o1 (fun c j k q => by unfold zQbk zCh at q; omega) f1 z1)
  refine ⟨k1, zCi.x (O_X12_back m1.2.2.2.2 j.1.2.2.2 a (fun h => absurd (yes hk q) h) (fun k2 hk2 q2 hf => ?_) (fun k2 hk2 q2 ht2 σ2 r2 c2 o2 hx2 => ?_))⟩
  · rw [← eq hk hk2 q q2, ht] at hf
    exact absurd hf (by decide)
  have e0 := eq hk hk2 q q2
  subst e0
  obtain ⟨jj, k2⟩ := nx σ2 _ o2 (fun c i k q => by unfold zWq at q; omega) hx2 r2 c2
  exact hK _ _ jj (k1.tr k2)
end zGr4
