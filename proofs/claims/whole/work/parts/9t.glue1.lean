/-! calls that change nothing but what was found: both sides -/
def zJx (A : zAb) (B : zSh) (H : zHo) (I : Nat → Bool × zAb) (σ : zSt) : Prop := zJW A B H I ∧ zJD A B H I σ ∧ zJM A B H I σ ∧ zJe σ
section zGm
variable {σ σ' : zSt} {A : zAb} {B : zSh} {H : zHo} {I : Nat → Bool × zAb} {M : Nat → Nat → Nat → Prop}
theorem zKpp.rf : zKpp σ σ := ⟨rfl, fun _ => rfl⟩
theorem zJx.J (j : zJx A B H I σ) : zJ σ := ⟨A, B, H, I, j⟩
theorem zJx.W (j : zJx A B H I σ) : zWf A := j.1.1
theorem zJx.D (j : zJx A B H I σ) : zRD A σ 0 := j.2.1.1
theorem zJx.cR (j : zJx A B H I σ) : zCR A σ := j.2.1.2.1.1
theorem zJx.cL (j : zJx A B H I σ) : zCL A σ := j.2.1.2.1.2.1
theorem zJx.cS (j : zJx A B H I σ) : zCS A σ := j.2.1.2.1.2.2.1
theorem zJx.cP (j : zJx A B H I σ) : zCP A σ := j.2.1.2.1.2.2.2.1
theorem zJx.cY (j : zJx A B H I σ) : zCY A σ := j.2.1.2.1.2.2.2.2
theorem zJx.xt (j : zJx A B H I σ) : zXT σ := j.2.1.2.2.1
theorem zJx.R (j : zJx A B H I σ) : zRM A σ := j.2.2.1.1
theorem zJx.C (j : zJx A B H I σ) : zCM A σ := j.2.2.1.2.1
theorem zJx.cc (j : zJx A B H I σ) (o : zOnly M σ σ') (h : σ'.2.2.2 = σ.2.2.2) (hm : ∀ c j k, M c j k → c = 30 ∨ (8 ≤ c ∧ c ≤ 13) ∨ (31 ≤ c ∧ c ≤ 52) ∨ (c = 6 ∧ k = 13)) (hx : zX σ σ') (hc : zCC A σ') : zJx A B H I σ' ∧ zKpp σ σ' :=
  ⟨⟨j.1, j.2.1.ro j.1 o h (fun c i k q => by have := hm c i k q; omega) hc, j.2.2.1.cl j.1 o (fun c i k q => by have := hm c i k q; omega), j.2.2.2.cl o (fun c i k q => by have := hm c i k q; omega)⟩, zKpp.cl o hx (fun k q => by have := hm 1 0 k q; omega)⟩
theorem zJx.cr (j : zJx A B H I σ) (o : zOnly zQr σ σ') (h : σ'.2.2.2 = σ.2.2.2) (c : zCR A σ') (hx : zX σ σ') : zJx A B H I σ' ∧ zKpp σ σ' := j.cc o h (fun c i k q => by unfold zQr at q; omega) hx (j.2.1.2.1.r o c)
theorem zJx.crl (j : zJx A B H I σ) (o : zOnly zQrl σ σ') (h : σ'.2.2.2 = σ.2.2.2) (c : zCR A σ') (l : zCL A σ') (hx : zX σ σ') : zJx A B H I σ' ∧ zKpp σ σ' := j.cc o h (fun c i k q => by unfold zQrl zQr zQl at q; omega) hx (j.2.1.2.1.rl o c l)
theorem zJx.crx (j : zJx A B H I σ) (o : zOnly zQrx σ σ') (h : σ'.2.2.2 = σ.2.2.2) (c : zCR A σ') (l : zCL A σ') (s : zCS A σ') (hx : zX σ σ') : zJx A B H I σ' ∧ zKpp σ σ' := j.cc o h (fun c i k q => by unfold zQrx zQx zQr zQl zQv at q; omega) hx (j.2.1.2.1.rx o c l s)
theorem zJx.cfl (j : zJx A B H I σ) (o : zOnly zQfl σ σ') (h : σ'.2.2.2 = σ.2.2.2) (c : zCR A σ') (hx : zX σ σ') : zJx A B H I σ' ∧ zKpp σ σ' := j.cc o h (fun c i k q => by unfold zQfl zQr zQcc z30 at q; omega) hx (j.2.1.2.1.fl o c)
theorem zJx.cyw (j : zJx A B H I σ) (o : zOnly zQyw σ σ') (h : σ'.2.2.2 = σ.2.2.2) (c : zCR A σ') (y : zCY A σ') (hx : zX σ σ') : zJx A B H I σ' ∧ zKpp σ σ' := j.cc o h (fun c i k q => by unfold zQyw zQr zQcy at q; omega) hx (j.2.1.2.1.yw o c y)
theorem zJx.c30 (j : zJx A B H I σ) (o : zOnly z30 σ σ') (h : σ'.2.2.2 = σ.2.2.2) (hx : zX σ σ') : zJx A B H I σ' ∧ zKpp σ σ' := j.cc o h (fun c i k q => by omega) hx (j.2.1.2.1.only o (fun c i k q => by omega))
theorem zJx.cpl (j : zJx A B H I σ) (o : zOnly zQpl σ σ') (h : σ'.2.2.2 = σ.2.2.2) (c : zCR A σ') (p : zCP A σ') (hx : zX σ σ') : zJx A B H I σ' ∧ zKpp σ σ' := j.cc o h (fun c i k q => by unfold zQpl at q; omega) hx (j.2.1.2.1.pl o c p)
theorem zJx.rr (j : zJx A B H I σ) (o : zOnly M σ σ') (hm : ∀ c j k, M c j k → (72 ≤ c ∧ c ≤ 90) ∨ (c = 54 ∧ ¬ (k = 0 ∨ k = 1 ∨ k = 2 ∨ k = 4 ∨ k = 12 ∨ k = 19 ∨ k = 23 ∨ k = 42 ∨ k = 78))) (hx : zX σ σ') (hc : zCM A σ') : zJx A B H I σ' ∧ zKpp σ σ' :=
  ⟨⟨j.1, j.2.1.rf j.1 o hx (fun c i k q => by have := hm c i k q; omega), j.2.2.1.ro j.1 o (fun c i k q => by have := hm c i k q; omega) hc, j.2.2.2.rf o (fun c i k q => by have := hm c i k q; omega)⟩, zKpp.cl o hx (fun k q => by have := hm 1 0 k q; omega)⟩
theorem zJx.rsn (j : zJx A B H I σ) (o : zOnly zSqn σ σ') (hc : zCM A σ') (hx : zX σ σ') : zJx A B H I σ' ∧ zKpp σ σ' := j.rr o (fun c i k q => by unfold zSqn zSqq zSq at q; omega) hx hc
theorem zJx.rq (j : zJx A B H I σ) (o : zOnly zQm σ σ') (hc : zCM A σ') (hx : zX σ σ') : zJx A B H I σ' ∧ zKpp σ σ' := j.rr o (fun c i k q => by unfold zQm at q; omega) hx hc
theorem zJx.rw' (j : zJx A B H I σ) (o : zOnly zQw σ σ') (hc : zCM A σ') (hx : zX σ σ') : zJx A B H I σ' ∧ zKpp σ σ' := j.rr o (fun c i k q => by unfold zQw zQm at q; omega) hx hc
theorem zJx.ro' (j : zJx A B H I σ) (o : zOnly zQo σ σ') (hc : zCM A σ') (hx : zX σ σ') : zJx A B H I σ' ∧ zKpp σ σ' := j.rr o (fun c i k q => by unfold zQo zQh zQt at q; omega) hx hc
theorem tI_lt (hW : zWf A) {t : Nat} (h : t < aN A) : t < 2 ^ 31 := by have hN : aN A ≤ 24 := hW.1.2.2.2.2.1; omega
theorem mI_lt (hW : zWf A) {t : Nat} (h : t < aM A) : t < 2 ^ 31 := by have hN : aM A ≤ 60 := hW.1.2.2.2.2.2.1; omega
theorem vI_lt (hW : zWf A) {t : Nat} (h : t < aV A) : t < 2 ^ 31 := by have hN : aV A ≤ 3 := hW.1.2.2.2.2.2.2; omega
end zGm
section zGn
variable {d d2 : Nat} {σ : zSt} {K : Int32 → Int32 → zSt → Prop} {L : Int64 → Int64 → zSt → Prop}
theorem G_about (hJ : zJ σ) (a e : Int32) (hK : ∀ x s, zJ s → zKpp σ s → K x x s) : zCi true (d + 8) 0 0 M_X11_about [.inr (.inr (6, 0)), .inl (a), .inl (e)] σ (fun x s1 => zKpp σ s1 ∧ zCi true (d2 + 9) 0 0 M_X12_about [.inr (.inr (54, 0)), .inl (a), .inl (e)] s1 (fun y s2 => K x y s2)) := by
  obtain ⟨A, B, H, I, j⟩ := hJ
  have j : zJx A B H I σ := j
  refine zCi.x (O_X11_about j.W j.D j.cR a e (fun h _ => ⟨zKpp.rf, zCi.x (O_X12_about j.W j.R j.C a e (fun _ _ => hK _ _ j.J zKpp.rf) (fun t ht q => absurd (by rw [q]; exact tI_of j.W ht) h))⟩) (fun t ht q σ1 o1 h1 c1 hx => ?_))
  obtain ⟨j1, k1⟩ := j.cr o1 h1 c1 hx
  refine ⟨k1, zCi.x (O_X12_about j1.W j1.R j1.C a e (fun h => absurd (by rw [q]; exact tI_of j1.W ht) h) (fun u hu q2 σ2 o2 c2 hx2 => ?_))⟩
  obtain ⟨j2, k2⟩ := j1.rq o2 c2 hx2
  have e := nI_i (q.symm.trans q2) (tI_lt j.W ht) (tI_lt j.W hu)
  subst e
  exact hK _ _ j2.J (k1.tr k2)
theorem G_cells (hJ : zJ σ) (a : Int32) (hK : ∀ x s, zJ s → zKpp σ s → L x x s) : zCl true (d + 8) 0 0 M_X11_cells [.inr (.inr (6, 0)), .inl (a)] σ (fun x s1 => zKpp σ s1 ∧ zCl true (d2 + 9) 0 0 M_X12_cells [.inr (.inr (54, 0)), .inl (a)] s1 (fun y s2 => L x y s2)) := by
  obtain ⟨A, B, H, I, j⟩ := hJ
  have j : zJx A B H I σ := j
  refine zCl.x (O_X11_cells j.W j.D j.cR a (fun h _ => ⟨zKpp.rf, zCl.x (O_X12_cells j.W j.R j.C a (fun _ _ => hK _ _ j.J zKpp.rf) (fun t ht q => absurd (by rw [q]; exact tI_of j.W ht) h))⟩) (fun t ht q σ1 o1 h1 c1 hx => ?_))
  obtain ⟨j1, k1⟩ := j.cr o1 h1 c1 hx
  refine ⟨k1, zCl.x (O_X12_cells j1.W j1.R j1.C a (fun h => absurd (by rw [q]; exact tI_of j1.W ht) h) (fun u hu q2 σ2 o2 c2 hx2 => ?_))⟩
  obtain ⟨j2, k2⟩ := j1.rq o2 c2 hx2
  have e := nI_i (q.symm.trans q2) (tI_lt j.W ht) (tI_lt j.W hu)
  subst e
  exact hK _ _ j2.J (k1.tr k2)
theorem G_lies (hJ : zJ σ) (a : Int32) (hK : ∀ x s, zJ s → zKpp σ s → K x x s) : zCi true (d + 8) 0 0 M_X11_lies [.inr (.inr (6, 0)), .inl (a)] σ (fun x s1 => zKpp σ s1 ∧ zCi true (d2 + 10) 0 0 M_X12_lies [.inr (.inr (54, 0)), .inl (a)] s1 (fun y s2 => K x y s2)) := by
  obtain ⟨A, B, H, I, j⟩ := hJ
  have j : zJx A B H I σ := j
  refine zCi.x (O_X11_lies j.W j.D j.cR j.cL j.cS a (fun h _ => ⟨zKpp.rf, zCi.x (O_X12_lies j.W j.R j.C a (fun _ _ => hK _ _ j.J zKpp.rf) (fun t ht q => absurd (by rw [q]; exact tI_of j.W ht) h))⟩) (fun t ht q σ1 o1 h1 c1 l1 s1 hx => ?_))
  obtain ⟨j1, k1⟩ := j.crx o1 h1 c1 l1 s1 hx
  refine ⟨k1, zCi.x (O_X12_lies j1.W j1.R j1.C a (fun h => absurd (by rw [q]; exact tI_of j1.W ht) h) (fun u hu q2 σ2 o2 c2 hx2 => ?_))⟩
  obtain ⟨j2, k2⟩ := j1.rq o2 c2 hx2
  have e := nI_i (q.symm.trans q2) (tI_lt j.W ht) (tI_lt j.W hu)
  subst e
  exact hK _ _ j2.J (k1.tr k2)
theorem G_told (hJ : zJ σ) (a e : Int32) (hK : ∀ x s, zJ s → zKpp σ s → K x x s) : zCi true (d + 8) 0 0 M_X11_told [.inr (.inr (6, 0)), .inl (a), .inl (e)] σ (fun x s1 => zKpp σ s1 ∧ zCi true (d2 + 9) 0 0 M_X12_told [.inr (.inr (54, 0)), .inl (a), .inl (e)] s1 (fun y s2 => K x y s2)) := by
  obtain ⟨A, B, H, I, j⟩ := hJ
  have j : zJx A B H I σ := j
  refine zCi.x (O_X11_told j.W j.D j.cR j.cL a e (fun h _ => ⟨zKpp.rf, zCi.x (O_X12_told j.W j.R j.C a e (fun _ _ => hK _ _ j.J zKpp.rf) (fun t ht q => absurd (by rw [q]; exact mI_of j.W ht) h))⟩) (fun t ht q σ1 o1 h1 c1 l1 hx => ?_))
  obtain ⟨j1, k1⟩ := j.crl o1 h1 c1 l1 hx
  refine ⟨k1, zCi.x (O_X12_told j1.W j1.R j1.C a e (fun h => absurd (by rw [q]; exact mI_of j1.W ht) h) (fun u hu q2 σ2 o2 c2 hx2 => ?_))⟩
  obtain ⟨j2, k2⟩ := j1.rq o2 c2 hx2
  have e := nI_i (q.symm.trans q2) (mI_lt j.W ht) (mI_lt j.W hu)
  subst e
  exact hK _ _ j2.J (k1.tr k2)
theorem G_ways (hJ : zJ σ) (a : Int32) (hK : ∀ x s, zJ s → zKpp σ s → L x x s) : zCl true (d + 7) 0 0 M_X11_ways [.inr (.inr (6, 0)), .inl (a)] σ (fun x s1 => zKpp σ s1 ∧ zCl true (d2 + 11) 0 0 M_X12_ways [.inr (.inr (54, 0)), .inl (a)] s1 (fun y s2 => L x y s2)) := by
  obtain ⟨A, B, H, I, j⟩ := hJ
  have j : zJx A B H I σ := j
  refine zCl.x (O_X11_ways j.W j.D j.cR j.cY a (fun h _ => ⟨zKpp.rf, zCl.x (O_X12_ways j.W j.R j.C a (fun _ _ => hK _ _ j.J zKpp.rf) (fun t ht q => absurd (by rw [q]; exact vI_of j.W ht) h))⟩) (fun t ht q σ1 o1 h1 c1 y1 hx => ?_))
  obtain ⟨j1, k1⟩ := j.cyw o1 h1 c1 y1 hx
  refine ⟨k1, zCl.x (O_X12_ways j1.W j1.R j1.C a (fun h => absurd (by rw [q]; exact vI_of j1.W ht) h) (fun u hu q2 σ2 o2 c2 hx2 => ?_))⟩
  obtain ⟨j2, k2⟩ := j1.rw' o2 c2 hx2
  have e := nI_i (q.symm.trans q2) (vI_lt j.W ht) (vI_lt j.W hu)
  subst e
  exact hK _ _ j2.J (k1.tr k2)
theorem G_quarrel (hJ : zJ σ) (hK : ∀ x s, zJ s → zKpp σ s → K x x s) : zCi true (d + 8) 0 0 M_X11_quarrel [.inr (.inr (6, 0))] σ (fun x s1 => zKpp σ s1 ∧ zCi true (d2 + 9) 0 0 M_X12_quarrel [.inr (.inr (54, 0))] s1 (fun y s2 => K x y s2)) := by
  obtain ⟨A, B, H, I, j⟩ := hJ
  have j : zJx A B H I σ := j
  refine zCi.x (O_X11_quarrel j.W j.D j.cR j.cL (fun σ1 o1 h1 c1 l1 hx => ?_))
  obtain ⟨j1, k1⟩ := j.crl o1 h1 c1 l1 hx
  refine ⟨k1, zCi.x (O_X12_quarrel j1.W j1.R j1.C (fun σ2 o2 c2 hx2 => ?_))⟩
  obtain ⟨j2, k2⟩ := j1.rq o2 c2 hx2
  exact hK _ _ j2.J (k1.tr k2)
theorem G_check (hJ : zJ σ) (hK : ∀ x s, zJ s → zKpp σ s → K x x s) : zCi true (d + 7) 0 0 M_X11_check [.inr (.inr (6, 0))] σ (fun x s1 => zKpp σ s1 ∧ zCi true (d2 + 7) 0 0 M_X12_check [.inr (.inr (54, 0))] s1 (fun y s2 => K x y s2)) := by
  obtain ⟨A, B, H, I, j⟩ := hJ
  have j : zJx A B H I σ := j
  refine zCi.x (O_X11_check j.W j.D j.cR (fun σ1 o1 h1 c1 hx => ?_))
  obtain ⟨j1, k1⟩ := j.cr o1 h1 c1 hx
  refine ⟨k1, zCi.x (O_X12_check j1.W j1.R j1.C (fun σ2 o2 c2 hx2 => ?_))⟩
  obtain ⟨j2, k2⟩ := j1.rq o2 c2 hx2
  exact hK _ _ j2.J (k1.tr k2)
theorem G_liars (hJ : zJ σ) (e : Int32) (hK : ∀ x s, zJ s → zKpp σ s → K x x s) : zCi true (d + 8) 0 0 M_X11_liars [.inr (.inr (6, 0)), .inl (e)] σ (fun x s1 => zKpp σ s1 ∧ zCi true (d2 + 10) 0 0 M_X12_liars [.inr (.inr (54, 0)), .inl (e)] s1 (fun y s2 => K x y s2)) := by
  obtain ⟨A, B, H, I, j⟩ := hJ
  have j : zJx A B H I σ := j
  refine zCi.x (O_X11_liars j.W j.D j.cR j.cL j.cS e (fun h _ => ⟨zKpp.rf, zCi.x (O_X12_liars j.W j.R j.C e (fun _ _ => hK _ _ j.J zKpp.rf) (fun q => absurd q h))⟩) (fun q σ1 o1 h1 c1 l1 s1 hx => ?_))
  obtain ⟨j1, k1⟩ := j.crx o1 h1 c1 l1 s1 hx
  refine ⟨k1, zCi.x (O_X12_liars j1.W j1.R j1.C e (fun h => absurd q h) (fun _ σ2 o2 c2 hx2 => ?_))⟩
  obtain ⟨j2, k2⟩ := j1.rq o2 c2 hx2
  exact hK _ _ j2.J (k1.tr k2)
theorem G_group (hJ : zJ σ) (a : Int32) (hK : ∀ x s, zJ s → zKpp σ s → K x x s) : zCi true (d + 5) 0 0 M_X11_group [.inr (.inr (6, 0)), .inl (a)] σ (fun x s1 => zKpp σ s1 ∧ zCi true (d2 + 3) 0 0 M_X12_group [.inr (.inr (54, 0)), .inl (a)] s1 (fun y s2 => K x y s2)) := by
  obtain ⟨A, B, H, I, j⟩ := hJ
  have j : zJx A B H I σ := j
  refine zCi.x (O_X11_group j.W j.D a (fun h _ => ⟨zKpp.rf, O_X12_group j.W j.R a (fun _ => hK _ _ j.J zKpp.rf) (fun t ht q => absurd (by rw [q]; exact tI_of j.W ht) h)⟩) (fun t ht q σ1 o1 h1 hx => ?_))
  obtain ⟨j1, k1⟩ := j.c30 o1 h1 hx
  refine ⟨k1, O_X12_group j1.W j1.R a (fun h => absurd (by rw [q]; exact tI_of j1.W ht) h) (fun u hu q2 => ?_)⟩
  have e := nI_i (q.symm.trans q2) (tI_lt j.W ht) (tI_lt j.W hu)
  subst e
  exact hK _ _ j1.J k1
theorem G_tick (hJ : zJ σ) (a b : Int32) (hK : ∀ x s, zJ s → zKpp σ s → K x x s) : zCi true (d + 4) 0 0 M_X11_tick [.inr (.inr (6, 0)), .inl (a), .inl (b)] σ (fun x s1 => zKpp σ s1 ∧ zCi true (d2 + 3) 0 0 M_X12_tick [.inr (.inr (54, 0)), .inl (a), .inl (b)] s1 (fun y s2 => K x y s2)) := by
  obtain ⟨A, B, H, I, j⟩ := hJ
  have j : zJx A B H I σ := j
  exact O_X11_tick j.W j.D a b ⟨zKpp.rf, O_X12_tick j.W j.R a b (hK _ _ j.J zKpp.rf)⟩
theorem G_trials (hJ : zJ σ) (hK : ∀ x s, zJ s → zKpp σ s → K x x s) : zCi true (d + 1) 0 0 M_X11_trials [.inr (.inr (6, 0))] σ (fun x s1 => zKpp σ s1 ∧ zCi true (d2 + 1) 0 0 M_X12_trials [.inr (.inr (54, 0))] s1 (fun y s2 => K x y s2)) := by
  obtain ⟨A, B, H, I, j⟩ := hJ
  have j : zJx A B H I σ := j
  refine O_X11_trials ⟨zKpp.rf, O_X12_trials ?_⟩
  rw [j.2.2.2.2.2]
  exact hK _ _ j.J zKpp.rf
theorem G_fault (hJ : zJ σ) (hK : ∀ x s, zJ s → zKpp σ s → K x x s) : zCi true (d + 1) 0 0 M_X11_fault [.inr (.inr (6, 0))] σ (fun x s1 => zKpp σ s1 ∧ zCi true (d2 + 1) 0 0 M_X12_fault [.inr (.inr (54, 0))] s1 (fun y s2 => K x y s2)) := by
  obtain ⟨A, B, H, I, j⟩ := hJ
  have j : zJx A B H I σ := j
  refine O_X11_fault ⟨zKpp.rf, O_X12_fault ?_⟩
  rw [j.2.2.2.1]
  exact hK _ _ j.J zKpp.rf
theorem G_trace (hJ : zJ σ) (hK : ∀ x s, zJ s → zKpp σ s → K x x s) : zCi true (d + 1) 0 0 M_X11_trace [.inr (.inr (6, 0))] σ (fun x s1 => zKpp σ s1 ∧ zCi true (d2 + 1) 0 0 M_X12_trace [.inr (.inr (54, 0))] s1 (fun y s2 => K x y s2)) := by
  obtain ⟨A, B, H, I, j⟩ := hJ
  have j : zJx A B H I σ := j
  refine O_X11_trace ⟨zKpp.rf, O_X12_trace ?_⟩
  rw [j.2.2.2.2.1]
  exact hK _ _ j.J zKpp.rf
theorem G_many (hJ : zJ σ) (e : Int32) (hK : ∀ x s, zJ s → zKpp σ s → K x x s) : zCi true (d + 8) 0 0 M_X11_many [.inr (.inr (6, 0)), .inl (e)] σ (fun x s1 => zKpp σ s1 ∧ zCi true (d2 + 10) 0 0 M_X12_many [.inr (.inr (54, 0)), .inl (e)] s1 (fun y s2 => K x y s2)) := by
  obtain ⟨A, B, H, I, j⟩ := hJ
  have j : zJx A B H I σ := j
  refine zCi.x (O_X11_many j.W j.D j.cR j.1.2.2.1 j.2.1.2.2.2.2.1 e (fun σ1 o1 h1 c1 hx => ?_))
  obtain ⟨j1, k1⟩ := j.cr o1 h1 c1 hx
  refine ⟨k1, zCi.x (O_X12_many j1.W j1.R j1.C j1.1.2.2.1 j1.2.2.1.2.2.2.1 e (fun σ2 o2 c2 hx2 => ?_))⟩
  obtain ⟨j2, k2⟩ := j1.rq o2 c2 hx2
  exact hK _ _ j2.J (k1.tr k2)
end zGn
