/-! calls on placings: both sides -/
section zGp
variable {d d2 : Nat} {σ : zSt} {K : Int32 → Int32 → zSt → Prop}
theorem G_placings (hJ : zJ σ) (a : Int32) (hK : ∀ x s, zJ s → zKpp σ s → K x x s) : zCi true (d + 15) 0 0 M_X11_placings [.inr (.inr (6, 0)), .inl (a)] σ (fun x s1 => zKpp σ s1 ∧ zCi true (d2 + 11) 0 0 M_X12_placings [.inr (.inr (54, 0)), .inl (a)] s1 (fun y s2 => K x y s2)) := by
  obtain ⟨A, B, H, I, j⟩ := hJ
  have j : zJx A B H I σ := j
  have step : ∀ (σ1 : zSt), zOnly (fun c j k => zQpl c j k ∨ (c = 6 ∧ k = 14)) σ σ1 → σ1.2.2.2 = σ.2.2.2 → zCR A σ1 → zCP A σ1 → zX σ σ1 → zRM A σ1 ∧ zCM A σ1 ∧ zKpp σ σ1 ∧ ∀ σ2, zOnly zSqr σ1 σ2 → zCM A σ2 → zX σ1 σ2 → zgi σ1 6 0 14 = zgi σ2 54 0 42 → zJ σ2 ∧ zKpp σ1 σ2 := fun σ1 o1 h1 c1 p1 hx => by
    have cc : zCC A σ1 := by
      have h := j.2.1.2.1
      refine ⟨c1, h.2.1.on o1 ⟨by unfold zQpl; omega, by unfold zQpl; omega⟩, h.2.2.1.on o1 ⟨by unfold zQpl; omega, by unfold zQpl; omega, by unfold zQpl; omega, fun k => by unfold zQpl; omega⟩, p1, h.2.2.2.2.only o1 ⟨by unfold zQpl; omega, fun j e => by unfold zQpl; omega⟩⟩
    have d1 := j.2.1.ro j.1 o1 h1 (fun c i k q => by unfold zQpl at q; omega) cc
    have m1 := j.2.2.1.cl j.1 o1 (fun c i k q => by unfold zQpl at q; omega)
    refine ⟨m1.1, m1.2.1, zKpp.cl o1 hx (fun k => by unfold zQpl; omega), fun σ2 o2 c2 hx2 e => ⟨⟨A, B, H, I, j.1, d1.rf j.1 o2 hx2 (fun c i k q => by unfold zSqr zSqq zSq at q; omega), m1.ro j.1 o2 (fun c i k q => by unfold zSqr zSqq zSq at q; omega) c2, ?_, ?_, ?_⟩, zKpp.cl o2 hx2 (fun k => by unfold zSqr zSqq zSq; omega)⟩⟩
    · rw [o2.i 6 0 15 (by unfold zSqr zSqq zSq; omega), o2.i 54 0 0 (by unfold zSqr zSqq zSq; omega), o1.i 6 0 15 (by unfold zQpl; omega), o1.i 54 0 0 (by unfold zQpl; omega)]
      exact j.2.2.2.1
    · rw [o2.i 14 0 0 (by unfold zSqr zSqq zSq; omega), o2.i 54 0 78 (by unfold zSqr zSqq zSq; omega), o1.i 14 0 0 (by unfold zQpl; omega), o1.i 54 0 78 (by unfold zQpl; omega)]
      exact j.2.2.2.2.1
    · rw [o2.i 6 0 14 (by unfold zSqr zSqq zSq; omega)]
      exact e
  refine zCi.x (O_X11_placings j.W j.D j.cR j.cP a (fun h _ => ⟨zKpp.rf, zCi.x (O_X12_placings j.W j.R j.C a (fun _ _ => hK _ _ j.J zKpp.rf) (fun t ht q => absurd (by rw [q]; exact tI_of j.W ht) h))⟩) (fun t ht q σ1 o1 h1 c1 p1 => ⟨fun z e hx => ?_, fun z e hx => ?_⟩))
  · obtain ⟨m1, m2, k1, nx⟩ := step σ1 o1 h1 c1 p1 hx
    refine ⟨k1, zCi.x (O_X12_placings j.W m1 m2 a (fun h => absurd (by rw [q]; exact tI_of j.W ht) h) (fun u hu q2 σ2 o2 c2 => ?_))⟩
    have e1 := nI_i (q.symm.trans q2) (tI_lt j.W ht) (tI_lt j.W hu)
    subst e1
    refine ⟨fun _ e2 hx2 => ?_, fun z2 => absurd z z2⟩
    obtain ⟨jj, k2⟩ := nx σ2 o2 c2 hx2 (by rw [e, e2])
    exact hK _ _ jj (k1.tr k2)
  · obtain ⟨m1, m2, k1, nx⟩ := step σ1 o1 h1 c1 p1 hx
    refine ⟨k1, zCi.x (O_X12_placings j.W m1 m2 a (fun h => absurd (by rw [q]; exact tI_of j.W ht) h) (fun u hu q2 σ2 o2 c2 => ?_))⟩
    have e1 := nI_i (q.symm.trans q2) (tI_lt j.W ht) (tI_lt j.W hu)
    subst e1
    refine ⟨fun z2 => absurd z2 z, fun _ e2 hx2 => ?_⟩
    obtain ⟨jj, k2⟩ := nx σ2 o2 c2 hx2 (by rw [e, e2])
    exact hK _ _ jj (k1.tr k2)
theorem G_sure (hJ : zJ σ) (a : Int32) (hK : ∀ x s, zJ s → zKpp σ s → K x x s) : zCi true (d + 15) 0 0 M_X11_sure [.inr (.inr (6, 0)), .inl (a)] σ (fun x s1 => zKpp σ s1 ∧ zCi true (d2 + 11) 0 0 M_X12_sure [.inr (.inr (54, 0)), .inl (a)] s1 (fun y s2 => K x y s2)) := by
  obtain ⟨A, B, H, I, j⟩ := hJ
  have j : zJx A B H I σ := j
  refine zCi.x (O_X11_sure j.W j.D j.cR j.cP a (fun h _ => ⟨zKpp.rf, zCi.x (O_X12_sure j.W j.R j.C a (fun _ _ => hK _ _ j.J zKpp.rf) (fun t ht q => absurd (by rw [q]; exact tI_of j.W ht) h))⟩) (fun t ht q σ1 o1 h1 c1 p1 => ⟨fun z hx => ?_, fun z hx => ?_⟩))
  · obtain ⟨j1, k1⟩ := j.cpl o1 h1 c1 p1 hx
    refine ⟨k1, zCi.x (O_X12_sure j1.W j1.R j1.C a (fun h => absurd (by rw [q]; exact tI_of j.W ht) h) (fun u hu q2 σ2 o2 c2 => ?_))⟩
    have e1 := nI_i (q.symm.trans q2) (tI_lt j.W ht) (tI_lt j.W hu)
    subst e1
    refine ⟨fun _ hx2 => ?_, fun z2 => absurd z z2⟩
    obtain ⟨j2, k2⟩ := j1.rsn o2 c2 hx2
    exact hK _ _ j2.J (k1.tr k2)
  · obtain ⟨j1, k1⟩ := j.cpl o1 h1 c1 p1 hx
    refine ⟨k1, zCi.x (O_X12_sure j1.W j1.R j1.C a (fun h => absurd (by rw [q]; exact tI_of j.W ht) h) (fun u hu q2 σ2 o2 c2 => ?_))⟩
    have e1 := nI_i (q.symm.trans q2) (tI_lt j.W ht) (tI_lt j.W hu)
    subst e1
    refine ⟨fun z2 => absurd z2 z, fun _ hx2 => ?_⟩
    obtain ⟨j2, k2⟩ := j1.rsn o2 c2 hx2
    exact hK _ _ j2.J (k1.tr k2)
theorem G_could (hJ : zJ σ) (a : Int32) (hK : ∀ x s, zJ s → zKpp σ s → K x x s) : zCi true (d + 15) 0 0 M_X11_could [.inr (.inr (6, 0)), .inl (a)] σ (fun x s1 => zKpp σ s1 ∧ zCi true (d2 + 11) 0 0 M_X12_could [.inr (.inr (54, 0)), .inl (a)] s1 (fun y s2 => K x y s2)) := by
  obtain ⟨A, B, H, I, j⟩ := hJ
  have j : zJx A B H I σ := j
  refine zCi.x (O_X11_could j.W j.D j.cR j.cP a (fun h _ => ⟨zKpp.rf, zCi.x (O_X12_could j.W j.R j.C a (fun _ _ => hK _ _ j.J zKpp.rf) (fun t ht q => absurd (by rw [q]; exact tI_of j.W ht) h))⟩) (fun t ht q σ1 o1 h1 c1 p1 => ⟨fun z hx => ?_, fun z hx => ?_⟩))
  · obtain ⟨j1, k1⟩ := j.cpl o1 h1 c1 p1 hx
    refine ⟨k1, zCi.x (O_X12_could j1.W j1.R j1.C a (fun h => absurd (by rw [q]; exact tI_of j.W ht) h) (fun u hu q2 σ2 o2 c2 => ?_))⟩
    have e1 := nI_i (q.symm.trans q2) (tI_lt j.W ht) (tI_lt j.W hu)
    subst e1
    refine ⟨fun _ hx2 => ?_, fun z2 => absurd z z2⟩
    obtain ⟨j2, k2⟩ := j1.rsn o2 c2 hx2
    exact hK _ _ j2.J (k1.tr k2)
  · obtain ⟨j1, k1⟩ := j.cpl o1 h1 c1 p1 hx
    refine ⟨k1, zCi.x (O_X12_could j1.W j1.R j1.C a (fun h => absurd (by rw [q]; exact tI_of j.W ht) h) (fun u hu q2 σ2 o2 c2 => ?_))⟩
    have e1 := nI_i (q.symm.trans q2) (tI_lt j.W ht) (tI_lt j.W hu)
    subst e1
    refine ⟨fun z2 => absurd z2 z, fun _ hx2 => ?_⟩
    obtain ⟨j2, k2⟩ := j1.rsn o2 c2 hx2
    exact hK _ _ j2.J (k1.tr k2)
theorem G_ask (hJ : zJ σ) (a e : Int32) (hK : ∀ x s, zJ s → zKpp σ s → K x x s) : zCi true (d + 15) 0 0 M_X11_ask [.inr (.inr (6, 0)), .inl (a), .inl (e)] σ (fun x s1 => zKpp σ s1 ∧ zCi true (d2 + 11) 0 0 M_X12_ask [.inr (.inr (54, 0)), .inl (a), .inl (e)] s1 (fun y s2 => K x y s2)) := by
  obtain ⟨A, B, H, I, j⟩ := hJ
  have j : zJx A B H I σ := j
  refine zCi.x (O_X11_ask j.W j.D j.cR j.cP a e (fun h _ => ⟨zKpp.rf, zCi.x (O_X12_ask j.W j.R j.C a e (fun _ _ => hK _ _ j.J zKpp.rf) (fun q => absurd q h) (fun t ht q => absurd (by rw [q]; exact tI_of j.W ht) h))⟩) (fun h h2 _ => ⟨zKpp.rf, zCi.x (O_X12_ask j.W j.R j.C a e (fun q => absurd h q) (fun _ _ _ => hK _ _ j.J zKpp.rf) (fun t ht q q2 => absurd q2 h2))⟩) (fun t ht q he σ1 o1 h1 c1 p1 => ⟨fun z hx => ?_, fun z hx => ?_⟩))
  · obtain ⟨j1, k1⟩ := j.cpl o1 h1 c1 p1 hx
    refine ⟨k1, zCi.x (O_X12_ask j1.W j1.R j1.C a e (fun h => absurd (by rw [q]; exact tI_of j.W ht) h) (fun _ h => absurd he h) (fun u hu q2 _ σ2 o2 c2 => ?_))⟩
    have e1 := nI_i (q.symm.trans q2) (tI_lt j.W ht) (tI_lt j.W hu)
    subst e1
    refine ⟨fun _ hx2 => ?_, fun z2 => absurd z z2⟩
    obtain ⟨j2, k2⟩ := j1.rsn o2 c2 hx2
    exact hK _ _ j2.J (k1.tr k2)
  · obtain ⟨j1, k1⟩ := j.cpl o1 h1 c1 p1 hx
    refine ⟨k1, zCi.x (O_X12_ask j1.W j1.R j1.C a e (fun h => absurd (by rw [q]; exact tI_of j.W ht) h) (fun _ h => absurd he h) (fun u hu q2 _ σ2 o2 c2 => ?_))⟩
    have e1 := nI_i (q.symm.trans q2) (tI_lt j.W ht) (tI_lt j.W hu)
    subst e1
    refine ⟨fun z2 => absurd z2 z, fun _ hx2 => ?_⟩
    obtain ⟨j2, k2⟩ := j1.rsn o2 c2 hx2
    exact hK _ _ j2.J (k1.tr k2)
theorem G_between (hJ : zJ σ) (a e : Int32) (hK : ∀ x s, zJ s → zKpp σ s → K x x s) : zCi true (d + 15) 0 0 M_X11_between [.inr (.inr (6, 0)), .inl (a), .inl (e)] σ (fun x s1 => zKpp σ s1 ∧ zCi true (d2 + 11) 0 0 M_X12_between [.inr (.inr (54, 0)), .inl (a), .inl (e)] s1 (fun y s2 => K x y s2)) := by
  obtain ⟨A, B, H, I, j⟩ := hJ
  have j : zJx A B H I σ := j
  refine zCi.x (O_X11_between j.W j.D j.cR j.cP a e (fun h _ => ⟨zKpp.rf, zCi.x (O_X12_between j.W j.R j.C a e (fun _ _ => hK _ _ j.J zKpp.rf) (fun q => absurd q h) (fun t ht q => absurd (by rw [q]; exact tI_of j.W ht) h))⟩) (fun h h2 _ => ⟨zKpp.rf, zCi.x (O_X12_between j.W j.R j.C a e (fun q => absurd h q) (fun _ _ _ => hK _ _ j.J zKpp.rf) (fun t ht q q2 => absurd q2 h2))⟩) (fun t ht q he σ1 o1 h1 c1 p1 => ⟨fun z hx => ?_, fun z hx => ?_⟩))
  · obtain ⟨j1, k1⟩ := j.cpl o1 h1 c1 p1 hx
    refine ⟨k1, zCi.x (O_X12_between j1.W j1.R j1.C a e (fun h => absurd (by rw [q]; exact tI_of j.W ht) h) (fun _ h => absurd he h) (fun u hu q2 _ σ2 o2 c2 => ?_))⟩
    have e1 := nI_i (q.symm.trans q2) (tI_lt j.W ht) (tI_lt j.W hu)
    subst e1
    refine ⟨fun _ hx2 => ?_, fun z2 => absurd z z2⟩
    obtain ⟨j2, k2⟩ := j1.rsn o2 c2 hx2
    exact hK _ _ j2.J (k1.tr k2)
  · obtain ⟨j1, k1⟩ := j.cpl o1 h1 c1 p1 hx
    refine ⟨k1, zCi.x (O_X12_between j1.W j1.R j1.C a e (fun h => absurd (by rw [q]; exact tI_of j.W ht) h) (fun _ h => absurd he h) (fun u hu q2 _ σ2 o2 c2 => ?_))⟩
    have e1 := nI_i (q.symm.trans q2) (tI_lt j.W ht) (tI_lt j.W hu)
    subst e1
    refine ⟨fun z2 => absurd z2 z, fun _ hx2 => ?_⟩
    obtain ⟨j2, k2⟩ := j1.rsn o2 c2 hx2
    exact hK _ _ j2.J (k1.tr k2)
theorem G_nth (hJ : zJ σ) (a b : Int32) (hK : ∀ x s, zJ s → zKpp σ s → K x x s) : zCi true (d + 15) 0 0 M_X11_nth [.inr (.inr (6, 0)), .inl (a), .inl (b)] σ (fun x s1 => zKpp σ s1 ∧ zCi true (d2 + 11) 0 0 M_X12_nth [.inr (.inr (54, 0)), .inl (a), .inl (b)] s1 (fun y s2 => K x y s2)) := by
  obtain ⟨A, B, H, I, j⟩ := hJ
  have j : zJx A B H I σ := j
  have yes : ∀ t n, t < aN A → a = nI t → b = nI n → n < 2147483648 → tI A a = true ∧ 0 ≤ b.toInt := fun t n ht q1 q2 hn => by
    rw [q1, q2, nI_toInt (by omega)]
    exact ⟨tI_of j.W ht, by omega⟩
  refine zCi.x (O_X11_nth j.W j.D j.cR j.cP a b (fun h _ => ⟨zKpp.rf, zCi.x (O_X12_nth j.W j.R j.C a b (fun _ _ => hK _ _ j.J zKpp.rf) (fun t n ht q1 q2 hn => absurd (yes t n ht q1 q2 hn) h))⟩) (fun t n ht q1 q2 hn σ1 o1 h1 c1 p1 => ⟨fun z hx => ?_, fun z => ⟨fun g hx => ?_, fun s hs hx => ?_⟩⟩))
  · obtain ⟨j1, k1⟩ := j.cpl o1 h1 c1 p1 hx
    refine ⟨k1, zCi.x (O_X12_nth j1.W j1.R j1.C a b (fun h => absurd (yes t n ht q1 q2 hn) h) (fun u m hu r1 r2 hm σ2 o2 c2 => ?_))⟩
    have e1 := nI_i (q1.symm.trans r1) (tI_lt j.W ht) (tI_lt j.W hu)
    subst e1
    refine ⟨fun _ hx2 => ?_, fun z2 => absurd z z2⟩
    obtain ⟨j2, k2⟩ := j1.rsn o2 c2 hx2
    exact hK _ _ j2.J (k1.tr k2)
  · obtain ⟨j1, k1⟩ := j.cpl o1 h1 c1 p1 hx
    refine ⟨k1, zCi.x (O_X12_nth j1.W j1.R j1.C a b (fun h => absurd (yes t n ht q1 q2 hn) h) (fun u m hu r1 r2 hm σ2 o2 c2 => ?_))⟩
    have e1 := nI_i (q1.symm.trans r1) (tI_lt j.W ht) (tI_lt j.W hu)
    have e2 := nI_i (q2.symm.trans r2) (by omega) (by omega)
    subst e1 e2
    refine ⟨fun z2 => absurd z2 z, fun _ => ⟨fun _ hx2 => ?_, fun s hs => absurd g (by have := (List.getElem?_eq_some_iff.mp hs).1; omega)⟩⟩
    obtain ⟨j2, k2⟩ := j1.rsn o2 c2 hx2
    exact hK _ _ j2.J (k1.tr k2)
  · obtain ⟨j1, k1⟩ := j.cpl o1 h1 c1 p1 hx
    refine ⟨k1, zCi.x (O_X12_nth j1.W j1.R j1.C a b (fun h => absurd (yes t n ht q1 q2 hn) h) (fun u m hu r1 r2 hm σ2 o2 c2 => ?_))⟩
    have e1 := nI_i (q1.symm.trans r1) (tI_lt j.W ht) (tI_lt j.W hu)
    have e2 := nI_i (q2.symm.trans r2) (by omega) (by omega)
    subst e1 e2
    refine ⟨fun z2 => absurd z2 z, fun _ => ⟨fun g => absurd g (by have := (List.getElem?_eq_some_iff.mp hs).1; omega), fun s' hs' hx2 => ?_⟩⟩
    have e3 : s = s' := Option.some.inj (hs.symm.trans hs')
    subst e3
    obtain ⟨j2, k2⟩ := j1.rsn o2 c2 hx2
    exact hK _ _ j2.J (k1.tr k2)
theorem G_together (hJ : zJ σ) (a b e f : Int32) (hK : ∀ x s, zJ s → zKpp σ s → K x x s) : zCi true (d + 15) 0 0 M_X11_together [.inr (.inr (6, 0)), .inl (a), .inl (b), .inl (e), .inl (f)] σ (fun x s1 => zKpp σ s1 ∧ zCi true (d2 + 11) 0 0 M_X12_together [.inr (.inr (54, 0)), .inl (a), .inl (b), .inl (e), .inl (f)] s1 (fun y s2 => K x y s2)) := by
  obtain ⟨A, B, H, I, j⟩ := hJ
  have j : zJx A B H I σ := j
  have yes : ∀ t u x y, t < aN A → u < aN A → x < 64 → y < 64 → acell A x = true → acell A y = true → a = nI t → b = nI x → e = nI u → f = nI y → tI A a = true ∧ acI A b = true ∧ tI A e = true ∧ acI A f = true := fun t u x y ht hu hx hy hxc hyc q1 q2 q3 q4 => by
    rw [q1, q2, q3, q4]
    exact ⟨tI_of j.W ht, acI_yes hx hxc, tI_of j.W hu, acI_yes hy hyc⟩
  refine zCi.x (O_X11_together j.W j.D j.cR j.cP a b e f (fun h _ => ⟨zKpp.rf, zCi.x (O_X12_together j.W j.R j.C a b e f (fun _ _ => hK _ _ j.J zKpp.rf) (fun t u x y ht hu hx hy hxc hyc q1 q2 q3 q4 => absurd (yes t u x y ht hu hx hy hxc hyc q1 q2 q3 q4) h))⟩) (fun t u x y ht hu hx hy hxc hyc q1 q2 q3 q4 σ1 o1 h1 c1 p1 => ?_))
  have go : ∀ v : Int32, zX σ σ1 → (∀ σ2 : zSt, zX σ1 σ2 → ∀ P : Int32 → Prop, P v → ((spB A t → P (-6)) ∧ (¬ spB A t → (gr A t u → P (zb (cnP (plF A t) (fb_ct (grB A t) t) (fb_ct (grB A t) u) x y = true))) ∧ (¬ gr A t u → (spB A u → P (-6)) ∧ (¬ spB A u → P (zb (0 < cnO (plF A t) (fb_ct (grB A t) t) x ∧ 0 < cnO (plF A u) (fb_ct (grB A u) u) y))))))) → zKpp σ σ1 ∧ zCi true (d2 + 11) 0 0 M_X12_together [.inr (.inr (54, 0)), .inl (a), .inl (b), .inl (e), .inl (f)] σ1 (fun y s2 => K v y s2) := fun v hx0 pv => by
    obtain ⟨j1, k1⟩ := j.cpl o1 h1 c1 p1 hx0
    refine ⟨k1, zCi.x (O_X12_together j1.W j1.R j1.C a b e f (fun h => absurd (yes t u x y ht hu hx hy hxc hyc q1 q2 q3 q4) h) (fun t' u' x' y' ht' hu' hx' hy' hxc' hyc' r1 r2 r3 r4 σ2 o2 c2 => ?_))⟩
    have e1 := nI_i (q1.symm.trans r1) (tI_lt j.W ht) (tI_lt j.W ht')
    have e2 := nI_i (q2.symm.trans r2) (by omega) (by omega)
    have e3 := nI_i (q3.symm.trans r3) (tI_lt j.W hu) (tI_lt j.W hu')
    have e4 := nI_i (q4.symm.trans r4) (by omega) (by omega)
    subst e1 e2 e3 e4
    have fin : zX σ1 σ2 → K v v σ2 := fun hx2 => by
      obtain ⟨j2, k2⟩ := j1.rsn o2 c2 hx2
      exact hK _ _ j2.J (k1.tr k2)
    have w := fun hx2 : zX σ1 σ2 => pv σ2 hx2 (fun y => K v y σ2) (fin hx2)
    exact ⟨fun z hx2 => (w hx2).1 z, fun z => ⟨fun g hx2 => ((w hx2).2 z).1 g, fun g => ⟨fun z2 hx2 => (((w hx2).2 z).2 g).1 z2, fun z2 hx2 => (((w hx2).2 z).2 g).2 z2⟩⟩⟩
  refine ⟨fun z hx => go _ hx (fun σ2 _ P p => ⟨fun _ => p, fun z2 => absurd z z2⟩), fun z => ⟨fun g hx => go _ hx (fun σ2 _ P p => ⟨fun z2 => absurd z2 z, fun _ => ⟨fun _ => p, fun g2 => absurd g g2⟩⟩), fun g => ⟨fun z2 hx => go _ hx (fun σ2 _ P p => ⟨fun w => absurd w z, fun _ => ⟨fun w => absurd w g, fun _ => ⟨fun _ => p, fun w => absurd z2 w⟩⟩⟩), fun z2 hx => go _ hx (fun σ2 _ P p => ⟨fun w => absurd w z, fun _ => ⟨fun w => absurd w g, fun _ => ⟨fun w => absurd w z2, fun _ => p⟩⟩⟩)⟩⟩⟩
end zGp
