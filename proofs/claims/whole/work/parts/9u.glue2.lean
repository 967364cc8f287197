/-! calls that change nothing but what was found: both sides (2) -/
section zGo
variable {d d2 : Nat} {σ : zSt} {K : Int32 → Int32 → zSt → Prop} {L : Int64 → Int64 → zSt → Prop}
theorem acI_yes {A : zAb} {c : Nat} (hc : c < 64) (h : acell A c = true) : acI A (nI c) = true := by rw [acI_of (by omega)]; exact h
theorem G_can (hJ : zJ σ) (a b e : Int32) (hK : ∀ x s, zJ s → zKpp σ s → K x x s) : zCi true (d + 8) 0 0 M_X11_can [.inr (.inr (6, 0)), .inl (a), .inl (b), .inl (e)] σ (fun x s1 => zKpp σ s1 ∧ zCi true (d2 + 9) 0 0 M_X12_can [.inr (.inr (54, 0)), .inl (a), .inl (b), .inl (e)] s1 (fun y s2 => K x y s2)) := by
  obtain ⟨A, B, H, I, j⟩ := hJ
  have j : zJx A B H I σ := j
  refine zCi.x (O_X11_can j.W j.D j.cR a b e (fun h _ => ⟨zKpp.rf, zCi.x (O_X12_can j.W j.R j.C a b e (fun _ _ => hK _ _ j.J zKpp.rf) (fun q => absurd q h) (fun t c ht hc hac q1 q2 => absurd ⟨by rw [q1]; exact tI_of j.W ht, by rw [q2]; exact acI_yes hc hac⟩ h))⟩) (fun h h2 _ => ⟨zKpp.rf, zCi.x (O_X12_can j.W j.R j.C a b e (fun q => absurd h q) (fun _ _ _ => hK _ _ j.J zKpp.rf) (fun t c ht hc hac q1 q2 σ2 o2 c2 => ⟨fun z => absurd (Or.inl z) h2, fun z => absurd (Or.inr z) h2⟩))⟩) (fun t c ht hc hac q1 q2 σ1 o1 h1 c1 => ⟨fun z hx => ?_, fun z hx => ?_⟩))
  · obtain ⟨j1, k1⟩ := j.cr o1 h1 c1 hx
    refine ⟨k1, zCi.x (O_X12_can j1.W j1.R j1.C a b e (fun q => absurd ⟨by rw [q1]; exact tI_of j.W ht, by rw [q2]; exact acI_yes hc hac⟩ q) (fun _ q => absurd (Or.inl z) q) (fun u x hu hx' hxc p1 p2 σ2 o2 c2 => ⟨fun _ hx2 => ?_, fun z' => absurd (z.symm.trans z') (by decide)⟩))⟩
    obtain ⟨j2, k2⟩ := j1.rq o2 c2 hx2
    have e1 := nI_i (q1.symm.trans p1) (tI_lt j.W ht) (tI_lt j.W hu)
    have e2 := nI_i (q2.symm.trans p2) (by omega) (by omega)
    subst e1 e2
    exact hK _ _ j2.J (k1.tr k2)
  · obtain ⟨j1, k1⟩ := j.cr o1 h1 c1 hx
    refine ⟨k1, zCi.x (O_X12_can j1.W j1.R j1.C a b e (fun q => absurd ⟨by rw [q1]; exact tI_of j.W ht, by rw [q2]; exact acI_yes hc hac⟩ q) (fun _ q => absurd (Or.inr z) q) (fun u x hu hx' hxc p1 p2 σ2 o2 c2 => ⟨fun z' => absurd (z'.symm.trans z) (by decide), fun _ hx2 => ?_⟩))⟩
    obtain ⟨j2, k2⟩ := j1.rq o2 c2 hx2
    have e1 := nI_i (q1.symm.trans p1) (tI_lt j.W ht) (tI_lt j.W hu)
    have e2 := nI_i (q2.symm.trans p2) (by omega) (by omega)
    subst e1 e2
    exact hK _ _ j2.J (k1.tr k2)
theorem zCM.hop {A : zAb} {σ σ' : zSt} {M : Nat → Nat → Nat → Prop} (h : zCM A σ) (o : zOnly M σ σ') (hm : ∀ c j k, M c j k → c = 73 ∨ c = 74) : zCM A σ' := by
  have n : ∀ c j k, ¬ (c = 73 ∨ c = 74) → ¬ M c j k := fun c j k a q => a (hm c j k q)
  exact ⟨h.1.only o (fun k => ⟨n _ _ _ (by omega), n _ _ _ (by omega), n _ _ _ (by omega)⟩), h.2.1.only o ⟨n _ _ _ (by omega), fun k => n _ _ _ (by omega)⟩, h.2.2.1.only o ⟨n _ _ _ (by omega), n _ _ _ (by omega), fun k => n _ _ _ (by omega)⟩, h.2.2.2.only o ⟨n _ _ _ (by omega), n _ _ _ (by omega), n _ _ _ (by omega), fun k => n _ _ _ (by omega)⟩⟩
theorem zCM.lay {A : zAb} {σ σ' : zSt} {M : Nat → Nat → Nat → Prop} (h : zCM A σ) (l : zLdI A σ') (o : zOnly M σ σ') (hm : ∀ c j k, M c j k → 72 ≤ c ∧ c ≤ 76) : zCM A σ' := by
  have n : ∀ c j k, ¬ (72 ≤ c ∧ c ≤ 76) → ¬ M c j k := fun c j k a q => a (hm c j k q)
  exact ⟨l, h.2.1.only o ⟨n _ _ _ (by omega), fun k => n _ _ _ (by omega)⟩, h.2.2.1.only o ⟨n _ _ _ (by omega), n _ _ _ (by omega), fun k => n _ _ _ (by omega)⟩, h.2.2.2.only o ⟨n _ _ _ (by omega), n _ _ _ (by omega), n _ _ _ (by omega), fun k => n _ _ _ (by omega)⟩⟩
theorem G_hops (hJ : zJ σ) (a b e : Int32) (hK : ∀ x s, zJ s → zKpp σ s → K x x s) : zCi true (d + 5) 0 0 M_X11_hops [.inr (.inr (6, 0)), .inl (a), .inl (b), .inl (e)] σ (fun x s1 => zKpp σ s1 ∧ zCi true (d2 + 5) 0 0 M_X12_hops [.inr (.inr (54, 0)), .inl (a), .inl (b), .inl (e)] s1 (fun y s2 => K x y s2)) := by
  obtain ⟨A, B, H, I, j⟩ := hJ
  have j : zJx A B H I σ := j
  have fc : ∀ c, afree A c = true → acell A c = true := fun c h => by unfold afree at h; rw [Bool.and_eq_true] at h; exact h.1
  have rg : ∀ r : Nat, r ≤ 98 → 0 ≤ (nI r).toInt ∧ (nI r).toInt ≤ 98 := fun r hr => by rw [nI_toInt (by omega)]; omega
  refine O_X11_hops j.W j.D j.cR.1 a b e (fun h => ⟨zKpp.rf, zCi.x (O_X12_hops j.W j.R a b e (fun _ _ => hK _ _ j.J zKpp.rf) (fun q => absurd q h) (fun c x r hc hx hr q1 q2 q3 h1 h2 _ => absurd ⟨by rw [q1]; exact acI_yes hc h1, by rw [q2]; exact acI_yes hx h2⟩ h) (fun c x r hc hx hr q1 q2 q3 h1 h2 => absurd ⟨by rw [q1]; exact acI_yes hc (fc _ h1), by rw [q2]; exact acI_yes hx (fc _ h2)⟩ h))⟩) (fun h h2 => ⟨zKpp.rf, zCi.x (O_X12_hops j.W j.R a b e (fun q => absurd h q) (fun _ _ _ => hK _ _ j.J zKpp.rf) (fun c x r hc hx hr q1 q2 q3 _ _ _ => absurd (by rw [q3]; exact rg r hr) h2) (fun c x r hc hx hr q1 q2 q3 _ _ => absurd (by rw [q3]; exact rg r hr) h2))⟩) (fun c x r hc hx hr q1 q2 q3 h1 h2 h3 => ⟨zKpp.rf, zCi.x (O_X12_hops j.W j.R a b e (fun q => absurd ⟨by rw [q1]; exact acI_yes hc h1, by rw [q2]; exact acI_yes hx h2⟩ q) (fun _ q => absurd (by rw [q3]; exact rg r hr) q) (fun _ _ _ _ _ _ _ _ _ _ _ _ _ => hK _ _ j.J zKpp.rf) (fun c' x' r' hc' hx' hr' p1 p2 p3 g1 g2 => absurd ⟨by rw [nI_i (q1.symm.trans p1) (by omega) (by omega)]; exact g1, by rw [nI_i (q2.symm.trans p2) (by omega) (by omega)]; exact g2⟩ h3))⟩) (fun c x r hc hx hr q1 q2 q3 h1 h2 z hz => ⟨zKpp.rf, zCi.x (O_X12_hops j.W j.R a b e (fun q => absurd ⟨by rw [q1]; exact acI_yes hc (fc _ h1), by rw [q2]; exact acI_yes hx (fc _ h2)⟩ q) (fun _ q => absurd (by rw [q3]; exact rg r hr) q) (fun c' x' r' hc' hx' hr' p1 p2 p3 _ _ g3 => absurd ⟨by rw [nI_i (p1.symm.trans q1) (by omega) (by omega)]; exact h1, by rw [nI_i (p2.symm.trans q2) (by omega) (by omega)]; exact h2⟩ g3) (fun c' x' r' hc' hx' hr' p1 p2 p3 g1 g2 z' σ2 hz' o2 hx2 => ?_))⟩)
  · have e1 := nI_i (q1.symm.trans p1) (by omega) (by omega)
    have e2 := nI_i (q2.symm.trans p2) (by omega) (by omega)
    have e3 := nI_i (q3.symm.trans p3) (by omega) (by omega)
    subst e1 e2 e3
    have e4 := aHops_one hz hz'
    subst e4
    obtain ⟨j2, k2⟩ := j.rr o2 (fun c i k q => by unfold zHm at q; omega) hx2 (j.C.hop o2 (fun c i k q => q))
    exact hK _ _ j2.J k2
theorem G_keeps (hJ : zJ σ) (a b e : Int32) (hK : ∀ x s, zJ s → zKpp σ s → K x x s) : zCi true (d + 7) 0 0 M_X11_keeps [.inr (.inr (6, 0)), .inl (a), .inl (b), .inl (e)] σ (fun x s1 => zKpp σ s1 ∧ zCi true (d2 + 6) 0 0 M_X12_keeps [.inr (.inr (54, 0)), .inl (a), .inl (b), .inl (e)] s1 (fun y s2 => K x y s2)) := by
  obtain ⟨A, B, H, I, j⟩ := hJ
  have j : zJx A B H I σ := j
  refine zCi.x (O_X11_keeps j.W j.D j.cR a b e (fun h _ => ⟨zKpp.rf, zCi.x (O_X12_keeps j.W j.R j.C.1 a b e (fun _ _ => hK _ _ j.J zKpp.rf) (fun m c x hm hc hx q1 q2 q3 h1 h2 => absurd ⟨by rw [q1]; exact mI_of j.W hm, by rw [q2]; exact acI_yes hc h1, by rw [q3]; exact acI_yes hx h2⟩ h))⟩) (fun m c x hm hc hxx q1 q2 q3 h1 h2 σ1 o1 g1 c1 hx => ?_))
  obtain ⟨j1, k1⟩ := j.cr o1 g1 c1 hx
  refine ⟨k1, zCi.x (O_X12_keeps j1.W j1.R j1.C.1 a b e (fun q => absurd ⟨by rw [q1]; exact mI_of j.W hm, by rw [q2]; exact acI_yes hc h1, by rw [q3]; exact acI_yes hxx h2⟩ q) (fun m' c' x' hm' hc' hx' p1 p2 p3 _ _ σ2 o2 l2 hx2 => ?_))⟩
  have e1 := nI_i (q1.symm.trans p1) (mI_lt j.W hm) (mI_lt j.W hm')
  have e2 := nI_i (q2.symm.trans p2) (by omega) (by omega)
  have e3 := nI_i (q3.symm.trans p3) (by omega) (by omega)
  subst e1 e2 e3
  obtain ⟨j2, k2⟩ := j1.rr o2 (fun c i k q => by omega) hx2 (j1.C.lay l2 o2 (fun c i k q => q))
  exact hK _ _ j2.J (k1.tr k2)
theorem G_flips (hJ : zJ σ) (a : Int32) (hK : ∀ x s, zJ s → zKpp σ s → K x x s) : zCi true (d + 7) 0 0 M_X11_flips [.inr (.inr (6, 0)), .inl (a)] σ (fun x s1 => zKpp σ s1 ∧ zCi true (d2 + 8) 0 0 M_X12_flips [.inr (.inr (54, 0)), .inl (a)] s1 (fun y s2 => K x y s2)) := by
  obtain ⟨A, B, H, I, j⟩ := hJ
  have j : zJx A B H I σ := j
  refine zCi.x (O_X11_flips j.W j.D j.cR j.xt a (fun h _ => ⟨zKpp.rf, zCi.x (O_X12_flips j.W j.R j.C a (fun _ _ => hK _ _ j.J zKpp.rf) (fun t ht q => absurd (by rw [q]; exact tI_of j.W ht) h))⟩) (fun t ht q σ1 o1 h1 c1 => ⟨fun z hx => ?_, fun z hx => ?_⟩))
  · obtain ⟨j1, k1⟩ := j.cfl o1 h1 c1 hx
    refine ⟨k1, zCi.x (O_X12_flips j1.W j1.R j1.C a (fun h => absurd (by rw [q]; exact tI_of j1.W ht) h) (fun u hu q2 => ⟨fun _ _ => hK _ _ j1.J k1, fun z2 => absurd z2 ?_⟩))⟩
    rw [← nI_i (q.symm.trans q2) (tI_lt j.W ht) (tI_lt j.W hu)]
    exact z
  · obtain ⟨j1, k1⟩ := j.cfl o1 h1 c1 hx
    refine ⟨k1, zCi.x (O_X12_flips j1.W j1.R j1.C a (fun h => absurd (by rw [q]; exact tI_of j1.W ht) h) (fun u hu q2 => ⟨fun z2 => absurd ?_ z2, fun _ σ2 o2 c2 hx2 => ?_⟩))⟩
    · rw [← nI_i (q.symm.trans q2) (tI_lt j.W ht) (tI_lt j.W hu)]
      exact z
    · obtain ⟨j2, k2⟩ := j1.ro' o2 c2 hx2
      have e := nI_i (q.symm.trans q2) (tI_lt j.W ht) (tI_lt j.W hu)
      subst e
      exact hK _ _ j2.J (k1.tr k2)
theorem G_flip (hJ : zJ σ) (a b w : Int32) (hK : ∀ x s, zJ s → zKpp σ s → K x x s) : zCi true (d + 8) 0 0 M_X11_flip [.inr (.inr (6, 0)), .inl (a), .inl (b), .inl (w)] σ (fun x s1 => zKpp σ s1 ∧ zCi true (d2 + 9) 0 0 M_X12_flip [.inr (.inr (54, 0)), .inl (a), .inl (b), .inl (w)] s1 (fun y s2 => K x y s2)) := by
  obtain ⟨A, B, H, I, j⟩ := hJ
  have j : zJx A B H I σ := j
  refine zCi.x (O_X11_flip j.W j.D j.cR j.xt a b w (fun h _ => ⟨zKpp.rf, zCi.x (O_X12_flip j.W j.R j.C a b w (fun _ _ => hK _ _ j.J zKpp.rf) (fun t ht q => absurd (by rw [q]; exact tI_of j.W ht) h))⟩) (fun t ht q σ1 o1 h1 c1 => ⟨fun z hx => ?_, fun z => ⟨fun g hx => ?_, fun n x hb hxl hx => ?_⟩⟩))
  · obtain ⟨j1, k1⟩ := j.cfl o1 h1 c1 hx
    refine ⟨k1, zCi.x (O_X12_flip j1.W j1.R j1.C a b w (fun h => absurd (by rw [q]; exact tI_of j1.W ht) h) (fun u hu q2 => ⟨fun _ _ => hK _ _ j1.J k1, fun z2 => absurd z2 ?_⟩))⟩
    rw [← nI_i (q.symm.trans q2) (tI_lt j.W ht) (tI_lt j.W hu)]
    exact z
  · obtain ⟨j1, k1⟩ := j.cfl o1 h1 c1 hx
    refine ⟨k1, zCi.x (O_X12_flip j1.W j1.R j1.C a b w (fun h => absurd (by rw [q]; exact tI_of j1.W ht) h) (fun u hu q2 => ?_))⟩
    have e := nI_i (q.symm.trans q2) (tI_lt j.W ht) (tI_lt j.W hu)
    subst e
    refine ⟨fun z2 => absurd z z2, fun _ σ2 o2 c2 => ⟨fun _ hx2 => ?_, fun n x hb hxl => ?_⟩⟩
    · obtain ⟨j2, k2⟩ := j1.ro' o2 c2 hx2
      exact hK _ _ j2.J (k1.tr k2)
    · have hn := (List.getElem?_eq_some_iff.mp hxl).1
      exact fun _ => absurd (show 0 ≤ b.toInt ∧ b.toInt < (flP A t).length from by
        have := flP_len (A := A) (g := t) j.W.1.2.2.2.2.1
        rw [hb, nI_toInt (by omega)]
        omega) g
  · obtain ⟨j1, k1⟩ := j.cfl o1 h1 c1 hx
    refine ⟨k1, zCi.x (O_X12_flip j1.W j1.R j1.C a b w (fun h => absurd (by rw [q]; exact tI_of j1.W ht) h) (fun u hu q2 => ?_))⟩
    have e := nI_i (q.symm.trans q2) (tI_lt j.W ht) (tI_lt j.W hu)
    subst e
    have hn := (List.getElem?_eq_some_iff.mp hxl).1
    have hlen := flP_len (A := A) (g := t) j.W.1.2.2.2.2.1
    refine ⟨fun z2 => absurd z z2, fun _ σ2 o2 c2 => ⟨fun g => absurd (show 0 ≤ b.toInt ∧ b.toInt < (flP A t).length from by rw [hb, nI_toInt (by omega)]; omega) g, fun n' x' hb' hxl' hx2 => ?_⟩⟩
    have hn' := (List.getElem?_eq_some_iff.mp hxl').1
    have e2 := nI_i (hb.symm.trans hb') (by omega) (by omega)
    subst e2
    have e3 : x = x' := Option.some.inj (hxl.symm.trans hxl')
    subst e3
    obtain ⟨j2, k2⟩ := j1.ro' o2 c2 hx2
    exact hK _ _ j2.J (k1.tr k2)
theorem G_way (hJ : zJ σ) (a : Int32) (x : Int64) (b : Int32) (hK : ∀ x s, zJ s → zKpp σ s → K x x s) : zCi true (d + 7) 0 0 M_X11_way [.inr (.inr (6, 0)), .inl (a), .inr (.inl (x)), .inl (b)] σ (fun y s1 => zKpp σ s1 ∧ zCi true (d2 + 11) 0 0 M_X12_way [.inr (.inr (54, 0)), .inl (a), .inr (.inl (x)), .inl (b)] s1 (fun z s2 => K y z s2)) := by
  obtain ⟨A, B, H, I, j⟩ := hJ
  have j : zJx A B H I σ := j
  have yes : ∀ v t, v < aV A → t < vT A v → a = nI v → b = nI t → vI A a = true ∧ 0 ≤ b.toInt ∧ b.toInt < vT A a.toInt.toNat := fun v t hv ht q1 q2 => by
    have w := j.W.2.2.2 v hv
    have := vI_lt j.W hv
    rw [q1, q2, nI_toInt (by omega), nI_toInt (by omega), Int.toNat_natCast]
    exact ⟨vI_of j.W hv, by omega, by omega⟩
  refine zCi.x (O_X11_way j.W j.D j.cR j.cY a x b (fun h _ => ⟨zKpp.rf, zCi.x (O_X12_way j.W j.R j.C a x b (fun _ _ => hK _ _ j.J zKpp.rf) (fun v t hv ht q1 q2 => absurd (yes v t hv ht q1 q2) h))⟩) (fun v t hv ht q1 q2 σ1 o1 h1 c1 y1 => ⟨fun g hx => ?_, fun n hn ex hx => ?_⟩))
  · have w := j.W.2.2.2 v hv
    obtain ⟨j1, k1⟩ := j.cyw o1 h1 c1 y1 hx
    refine ⟨k1, zCi.x (O_X12_way j1.W j1.R j1.C a x b (fun h => absurd (yes v t hv ht q1 q2) h) (fun v' t' hv' ht' p1 p2 σ2 o2 c2 => ?_))⟩
    have w' := j.W.2.2.2 v' hv'
    have e1 := nI_i (q1.symm.trans p1) (vI_lt j.W hv) (vI_lt j.W hv')
    have e2 := nI_i (q2.symm.trans p2) (by omega) (by omega)
    subst e1 e2
    refine ⟨fun _ hx2 => ?_, fun n hn ex => absurd ?_ g⟩
    · obtain ⟨j2, k2⟩ := j1.rw' o2 c2 hx2
      exact hK _ _ j2.J (k1.tr k2)
    · have hT := wyT_le j.W hv
      have e48 : (64 : Nat) ^ 8 = 281474976710656 := by decide
      rw [e48] at hT
      rw [ex, lN_ti (by omega), if_pos (by omega)]
      omega
  · have w := j.W.2.2.2 v hv
    obtain ⟨j1, k1⟩ := j.cyw o1 h1 c1 y1 hx
    refine ⟨k1, zCi.x (O_X12_way j1.W j1.R j1.C a x b (fun h => absurd (yes v t hv ht q1 q2) h) (fun v' t' hv' ht' p1 p2 σ2 o2 c2 => ?_))⟩
    have w' := j.W.2.2.2 v' hv'
    have e1 := nI_i (q1.symm.trans p1) (vI_lt j.W hv) (vI_lt j.W hv')
    have e2 := nI_i (q2.symm.trans p2) (by omega) (by omega)
    subst e1 e2
    have hT := wyT_le j.W hv
    have e48 : (64 : Nat) ^ 8 = 281474976710656 := by decide
    rw [e48] at hT
    have tx : x.toInt = (n : Int) := by rw [ex, lN_ti (by omega), if_pos (by omega)]
    refine ⟨fun g => absurd (by omega) g, fun n' hn' ex' hx2 => ?_⟩
    have tx' : x.toInt = (n' : Int) := by rw [ex', lN_ti (by omega), if_pos (by omega)]
    have e3 : n = n' := by omega
    subst e3
    obtain ⟨j2, k2⟩ := j1.rw' o2 c2 hx2
    exact hK _ _ j2.J (k1.tr k2)
end zGo
