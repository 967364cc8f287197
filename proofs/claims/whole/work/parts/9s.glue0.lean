/-! both sides at once: what holds between two calls -/
theorem zC.X {ph : Bool} {d kc ks : Nat} {M : zMth} {As : List zV} {σ : zSt} {Q : Option zV → zSt → Prop} (h : zC ph d kc ks M As σ Q) : zC ph d kc ks M As σ (fun r σ' => Q r σ' ∧ zX σ σ') := by
  intro D acl z l p e ha hc hk s m args below hf hap hP hK
  obtain ⟨t, o, h1, h2, h3, h4, h5⟩ := h D acl z l p e ha hc hk s m args below hf hap hP hK
  obtain ⟨⟨r, σ', e1, e2, e3, e4⟩, hF⟩ := h4
  exact ⟨t, o, h1, h2, h3, ⟨⟨r, σ', e1, ⟨e2, e3⟩, e3, e4⟩, hF⟩, h5⟩
theorem zCi.x {ph : Bool} {d kc ks : Nat} {M : zMth} {As : List zV} {σ : zSt} {K : Int32 → zSt → Prop} (h : zCi ph d kc ks M As σ (fun x σ' => zX σ σ' → K x σ')) : zCi ph d kc ks M As σ K := zC.mono (zC.X h) (fun r σ' ⟨⟨x, e, q⟩, hx⟩ => ⟨x, e, q hx⟩)
theorem zCl.x {ph : Bool} {d kc ks : Nat} {M : zMth} {As : List zV} {σ : zSt} {K : Int64 → zSt → Prop} (h : zCl ph d kc ks M As σ (fun x σ' => zX σ σ' → K x σ')) : zCl ph d kc ks M As σ K := zC.mono (zC.X h) (fun r σ' ⟨⟨x, e, q⟩, hx⟩ => ⟨x, e, q hx⟩)
theorem zX.cn {σ σ' : zSt} (h : zX σ σ') (c : Nat) : zcn σ c ≤ zcn σ' c := by
  by_cases z : zcn σ c ≤ zcn σ' c
  · exact z
  · have := (h.1 c (zcn σ' c) (by omega)).1
    omega
def zCC (A : zAb) (σ : zSt) : Prop := zCR A σ ∧ zCL A σ ∧ zCS A σ ∧ zCP A σ ∧ zCY A σ
def zJD (A : zAb) (B : zSh) (H : zHo) (I : Nat → Bool × zAb) (σ : zSt) : Prop := zRD A σ 0 ∧ zCC A σ ∧ zXT σ ∧ zSD B σ ∧ zHD H σ ∧ zID I σ ∧ zTyR σ
def zJM (A : zAb) (B : zSh) (H : zHo) (I : Nat → Bool × zAb) (σ : zSt) : Prop := zRM A σ ∧ zCM A σ ∧ zRs B σ ∧ zRh H σ ∧ zRi I σ
def zJW (A : zAb) (B : zSh) (H : zHo) (I : Nat → Bool × zAb) : Prop := zWf A ∧ zWs B ∧ zWh H ∧ ∀ k, k < 2 → (I k).1 = true → zWf (I k).2
def zJe (σ : zSt) : Prop := zgi σ 6 0 15 = zgi σ 54 0 0 ∧ zgi σ 14 0 0 = zgi σ 54 0 78 ∧ zgi σ 6 0 14 = zgi σ 54 0 42
def zJ (σ : zSt) : Prop := ∃ A B H I, zJW A B H I ∧ zJD A B H I σ ∧ zJM A B H I σ ∧ zJe σ
def zKpp (σ σ' : zSt) : Prop := zsc σ' = zsc σ ∧ ∀ k, zgi σ' 1 0 k = zgi σ 1 0 k
section zGl
variable {σ σ' : zSt} {A : zAb} {B : zSh} {H : zHo} {I : Nat → Bool × zAb} {M : Nat → Nat → Nat → Prop}
theorem zXT.on (h : zXT σ) (ho : zOnly M σ σ') (hm : ∀ c j k, 2 ≤ c → c ≤ 5 → ¬ M c j k) : zXT σ' := fun k hk => by
  rw [ho.i 2 0 k (hm _ _ _ (by omega) (by omega)), ho.i 3 0 k (hm _ _ _ (by omega) (by omega)), ho.i 4 0 k (hm _ _ _ (by omega) (by omega)), ho.i 5 0 k (hm _ _ _ (by omega) (by omega))]
  exact h k hk
theorem zRi.only (h : zRi I σ) (hW : ∀ k, k < 2 → (I k).1 = true → zWf (I k).2) (ho : zOnly M σ σ') (hm : ∀ k, ¬ M 91 0 k ∧ ¬ M 92 0 k) : zRi I σ' := fun k hk => by
  obtain ⟨h1, h2⟩ := h k hk
  exact ⟨by rw [ho.i 91 0 k (hm k).1]; exact h1, fun z => (h2 z).of (hW k hk z) (fun e _ _ => ho.i 92 0 e (hm e).2)⟩
theorem zRs.only (h : zRs B σ) (hW : zWs B) (ho : zOnly M σ σ') (hm : ∀ k, ¬ M 98 0 k ∧ ¬ M 99 0 k ∧ ¬ M 100 0 k) : zRs B σ' := h.of (fun k _ => ho.i 98 0 k (hm k).1) (fun k _ => ho.i 99 0 k (hm k).2.1) (fun k _ => ho.l 100 0 k (hm k).2.2) hW
theorem zCL.on (h : zCL A σ) (ho : zOnly M σ σ') (hm : ¬ M 10 0 5 ∧ ¬ M 10 0 6) : zCL A σ' := fun q => by
  rw [ho.i 10 0 5 hm.1] at q
  rw [ho.l 10 0 6 hm.2]
  exact h q
theorem zCS.on (h : zCS A σ) (ho : zOnly M σ σ') (hm : ¬ M 10 0 7 ∧ ¬ M 10 0 8 ∧ ¬ M 10 0 9 ∧ ∀ k, ¬ M 39 0 k) : zCS A σ' := fun q => by
  rw [ho.i 10 0 7 hm.1] at q
  obtain ⟨h1, h2⟩ := h q
  refine ⟨by rw [ho.i 10 0 8 hm.2.1]; exact h1, fun z => ⟨by rw [ho.i 10 0 9 hm.2.2.1]; exact (h2 z).1, fun t ht => by rw [ho.i 39 0 t (hm.2.2.2 t)]; exact (h2 z).2 t ht⟩⟩
theorem zCC.only (h : zCC A σ) (ho : zOnly M σ σ') (hm : ∀ c j k, M c j k → ¬ (8 ≤ c ∧ c ≤ 13 ∨ 31 ≤ c ∧ c ≤ 53) ∧ ¬ (c = 6 ∧ k = 13)) : zCC A σ' := by
  have n1 : ∀ c j k, 8 ≤ c → c ≤ 13 → ¬ M c j k := fun c j k a b q => (hm c j k q).1 (Or.inl ⟨a, b⟩)
  have n2 : ∀ c j k, 31 ≤ c → c ≤ 53 → ¬ M c j k := fun c j k a b q => (hm c j k q).1 (Or.inr ⟨a, b⟩)
  refine ⟨h.1.only ho ⟨fun j k => ⟨n2 _ _ _ (by omega) (by omega), n2 _ _ _ (by omega) (by omega)⟩, fun j k => ⟨n2 _ _ _ (by omega) (by omega), n2 _ _ _ (by omega) (by omega)⟩, n1 _ _ _ (by omega) (by omega), n1 _ _ _ (by omega) (by omega), fun q => (hm _ _ _ q).2 ⟨rfl, rfl⟩⟩, h.2.1.on ho ⟨n1 _ _ _ (by omega) (by omega), n1 _ _ _ (by omega) (by omega)⟩, h.2.2.1.on ho ⟨n1 _ _ _ (by omega) (by omega), n1 _ _ _ (by omega) (by omega), n1 _ _ _ (by omega) (by omega), fun k => n2 _ _ _ (by omega) (by omega)⟩, h.2.2.2.1.only ho ⟨fun k _ => n1 _ _ _ (by omega) (by omega), fun j k => ⟨n2 _ _ _ (by omega) (by omega), n2 _ _ _ (by omega) (by omega), n2 _ _ _ (by omega) (by omega), n2 _ _ _ (by omega) (by omega)⟩⟩, h.2.2.2.2.only ho ⟨n1 _ _ _ (by omega) (by omega), fun j e => n2 _ _ _ (by omega) (by omega)⟩⟩
/-- the reference stays where the class works -/
theorem zJM.cl (h : zJM A B H I σ) (hw : zJW A B H I) (ho : zOnly M σ σ') (hm : ∀ c j k, M c j k → c < 54) : zJM A B H I σ' := by
  have n : ∀ c j k, 54 ≤ c → ¬ M c j k := fun c j k a q => by have := hm c j k q; omega
  refine ⟨h.1.only ho (fun c k hb => n _ _ _ (by unfold zBM at hb; omega)), h.2.1.only ho (fun c k hb => n _ _ _ (by unfold zQm at hb; omega)), h.2.2.1.only hw.2.1 ho (fun k => ⟨n _ _ _ (by omega), n _ _ _ (by omega), n _ _ _ (by omega)⟩), h.2.2.2.1.only ho (fun k => ⟨n _ _ _ (by omega), n _ _ _ (by omega), n _ _ _ (by omega), n _ _ _ (by omega), n _ _ _ (by omega)⟩), h.2.2.2.2.only hw.2.2.2 ho (fun k => ⟨n _ _ _ (by omega), n _ _ _ (by omega)⟩)⟩
/-- the class stays where the reference works -/
theorem zJD.rf (h : zJD A B H I σ) (hw : zJW A B H I) (ho : zOnly M σ σ') (hx : zX σ σ') (hm : ∀ c j k, M c j k → 54 ≤ c) : zJD A B H I σ' := by
  have n : ∀ c j k, c < 54 → ¬ M c j k := fun c j k a q => by have := hm c j k q; omega
  have hmad : zMad M σ σ' := ⟨ho.mono (fun c j k q => Or.inr (Or.inr q)), hx.cn, fun j k => Or.inl (ho.r 23 j k (n _ _ _ (by omega))), fun j k => Or.inl (ho.r 26 j k (n _ _ _ (by omega)))⟩
  refine ⟨h.1.mk hmad (fun c j k hb => n _ _ _ (by unfold zBD at hb; omega)), h.2.1.only ho (fun c j k q => by have := hm c j k q; omega), h.2.2.1.on ho (fun c j k a b => n _ _ _ (by omega)), h.2.2.2.1.only ho (fun j k => ⟨n _ _ _ (by omega), n _ _ _ (by omega)⟩), h.2.2.2.2.1.of hx.cn (fun k => ⟨ho.r 20 0 k (n _ _ _ (by omega)), ho.r 21 0 k (n _ _ _ (by omega))⟩) (fun c m k hc _ => ho.i c m k (n _ _ _ (by omega))), h.2.2.2.2.2.1.to hw.2.2.2 hmad (fun c k => ⟨fun hc => ⟨n _ _ _ (by omega), n _ _ _ (by omega)⟩, fun hc => n _ _ _ (by omega)⟩) (fun c m k hc => n _ _ _ (by omega)), h.2.2.2.2.2.2.only ho (fun j k => ⟨n _ _ _ (by omega), n _ _ _ (by omega)⟩)⟩
theorem zKpp.cl (ho : zOnly M σ σ') (hx : zX σ σ') (hm : ∀ k, ¬ M 1 0 k) : zKpp σ σ' := ⟨hx.2, fun k => ho.i 1 0 k (hm k)⟩
theorem zKpp.tr {a b c : zSt} (h1 : zKpp a b) (h2 : zKpp b c) : zKpp a c := ⟨h2.1.trans h1.1, fun k => (h2.2 k).trans (h1.2 k)⟩
/-- a call of the class that changes what it has found alone -/
theorem zJD.ro (h : zJD A B H I σ) (hw : zJW A B H I) (ho : zOnly M σ σ') (hh : σ'.2.2.2 = σ.2.2.2) (hm : ∀ c j k, M c j k → c = 30 ∨ (8 ≤ c ∧ c ≤ 13) ∨ (31 ≤ c ∧ c ≤ 52) ∨ (c = 6 ∧ (k = 13 ∨ k = 14))) (hc : zCC A σ') : zJD A B H I σ' := by
  have n : ∀ c j k, ¬ (c = 30 ∨ (8 ≤ c ∧ c ≤ 13) ∨ (31 ≤ c ∧ c ≤ 52) ∨ c = 6) → ¬ M c j k := fun c j k a q => by have := hm c j k q; omega
  have hmad : zMad M σ σ' := zMad.of ho hh (fun j k => ⟨n _ _ _ (by omega), n _ _ _ (by omega)⟩)
  refine ⟨h.1.mk hmad (fun c j k hb => n _ _ _ (by unfold zBD at hb; omega)), hc, h.2.2.1.on ho (fun c j k a b => n _ _ _ (by omega)), h.2.2.2.1.only ho (fun j k => ⟨n _ _ _ (by omega), n _ _ _ (by omega)⟩), h.2.2.2.2.1.only ho hh (fun j k => ⟨n _ _ _ (by omega), n _ _ _ (by omega), n _ _ _ (by omega), n _ _ _ (by omega)⟩), h.2.2.2.2.2.1.to hw.2.2.2 hmad (fun c k => ⟨fun hc => ⟨n _ _ _ (by omega), n _ _ _ (by omega)⟩, fun hc => n _ _ _ (by omega)⟩) (fun c m k hc => n _ _ _ (by omega)), h.2.2.2.2.2.2.only ho (fun j k => ⟨n _ _ _ (by omega), n _ _ _ (by omega)⟩)⟩
/-- a call of the reference that changes what it has found alone -/
theorem zJM.ro (h : zJM A B H I σ) (hw : zJW A B H I) (ho : zOnly M σ σ') (hm : ∀ c j k, M c j k → (72 ≤ c ∧ c ≤ 90) ∨ (c = 54 ∧ ¬ (k = 1 ∨ k = 2 ∨ k = 4 ∨ k = 12 ∨ k = 19 ∨ k = 23))) (hc : zCM A σ') : zJM A B H I σ' := by
  have n : ∀ c j k, ¬ ((72 ≤ c ∧ c ≤ 90) ∨ c = 54) → ¬ M c j k := fun c j k a q => by have := hm c j k q; omega
  refine ⟨h.1.only ho (fun c k hb q => by have := hm c 0 k q; unfold zBM at hb; omega), hc, h.2.2.1.only hw.2.1 ho (fun k => ⟨n _ _ _ (by omega), n _ _ _ (by omega), n _ _ _ (by omega)⟩), h.2.2.2.1.only ho (fun k => ⟨n _ _ _ (by omega), n _ _ _ (by omega), n _ _ _ (by omega), n _ _ _ (by omega), n _ _ _ (by omega)⟩), h.2.2.2.2.only hw.2.2.2 ho (fun k => ⟨n _ _ _ (by omega), n _ _ _ (by omega)⟩)⟩
theorem zJe.cl (h : zJe σ) (ho : zOnly M σ σ') (hm : ∀ c j k, M c j k → c < 54 ∧ c ≠ 14 ∧ ¬ (c = 6 ∧ (k = 14 ∨ k = 15))) : zJe σ' := by
  have n : ∀ c j k, ¬ (c < 54 ∧ c ≠ 14 ∧ ¬ (c = 6 ∧ (k = 14 ∨ k = 15))) → ¬ M c j k := fun c j k a q => a (hm c j k q)
  unfold zJe
  rw [ho.i 6 0 15 (n _ _ _ (by omega)), ho.i 54 0 0 (n _ _ _ (by omega)), ho.i 14 0 0 (n _ _ _ (by omega)), ho.i 54 0 78 (n _ _ _ (by omega)), ho.i 6 0 14 (n _ _ _ (by omega)), ho.i 54 0 42 (n _ _ _ (by omega))]
  exact h
theorem zJe.rf (h : zJe σ) (ho : zOnly M σ σ') (hm : ∀ c j k, M c j k → 54 ≤ c ∧ ¬ (c = 54 ∧ (k = 0 ∨ k = 42 ∨ k = 78))) : zJe σ' := by
  have n : ∀ c j k, ¬ (54 ≤ c ∧ ¬ (c = 54 ∧ (k = 0 ∨ k = 42 ∨ k = 78))) → ¬ M c j k := fun c j k a q => a (hm c j k q)
  unfold zJe
  rw [ho.i 6 0 15 (n _ _ _ (by omega)), ho.i 54 0 0 (n _ _ _ (by omega)), ho.i 14 0 0 (n _ _ _ (by omega)), ho.i 54 0 78 (n _ _ _ (by omega)), ho.i 6 0 14 (n _ _ _ (by omega)), ho.i 54 0 42 (n _ _ _ (by omega))]
  exact h
/-- the class's caches after calls that find more -/
theorem zCC.r (h : zCC A σ) (ho : zOnly zQr σ σ') (hc : zCR A σ') : zCC A σ' :=
  ⟨hc, h.2.1.on ho ⟨by unfold zQr; omega, by unfold zQr; omega⟩, h.2.2.1.on ho ⟨by unfold zQr; omega, by unfold zQr; omega, by unfold zQr; omega, fun k => by unfold zQr; omega⟩, h.2.2.2.1.only ho ⟨fun k _ => by unfold zQr; omega, fun j k => ⟨by unfold zQr; omega, by unfold zQr; omega, by unfold zQr; omega, by unfold zQr; omega⟩⟩, h.2.2.2.2.only ho ⟨by unfold zQr; omega, fun j e => by unfold zQr; omega⟩⟩
theorem zCC.rl (h : zCC A σ) (ho : zOnly zQrl σ σ') (hc : zCR A σ') (hl : zCL A σ') : zCC A σ' :=
  ⟨hc, hl, h.2.2.1.on ho ⟨by unfold zQrl zQr zQl; omega, by unfold zQrl zQr zQl; omega, by unfold zQrl zQr zQl; omega, fun k => by unfold zQrl zQr zQl; omega⟩, h.2.2.2.1.only ho ⟨fun k _ => by unfold zQrl zQr zQl; omega, fun j k => ⟨by unfold zQrl zQr zQl; omega, by unfold zQrl zQr zQl; omega, by unfold zQrl zQr zQl; omega, by unfold zQrl zQr zQl; omega⟩⟩, h.2.2.2.2.only ho ⟨by unfold zQrl zQr zQl; omega, fun j e => by unfold zQrl zQr zQl; omega⟩⟩
theorem zCC.rx (h : zCC A σ) (ho : zOnly zQrx σ σ') (hc : zCR A σ') (hl : zCL A σ') (hs : zCS A σ') : zCC A σ' :=
  ⟨hc, hl, hs, h.2.2.2.1.only ho ⟨fun k _ => by unfold zQrx zQx zQr zQl zQv; omega, fun j k => ⟨by unfold zQrx zQx zQr zQl zQv; omega, by unfold zQrx zQx zQr zQl zQv; omega, by unfold zQrx zQx zQr zQl zQv; omega, by unfold zQrx zQx zQr zQl zQv; omega⟩⟩, h.2.2.2.2.only ho ⟨by unfold zQrx zQx zQr zQl zQv; omega, fun j e => by unfold zQrx zQx zQr zQl zQv; omega⟩⟩
theorem zCC.fl (h : zCC A σ) (ho : zOnly zQfl σ σ') (hc : zCR A σ') : zCC A σ' :=
  ⟨hc, h.2.1.on ho ⟨by unfold zQfl zQr zQcc z30; omega, by unfold zQfl zQr zQcc z30; omega⟩, h.2.2.1.on ho ⟨by unfold zQfl zQr zQcc z30; omega, by unfold zQfl zQr zQcc z30; omega, by unfold zQfl zQr zQcc z30; omega, fun k => by unfold zQfl zQr zQcc z30; omega⟩, h.2.2.2.1.only ho ⟨fun k _ => by unfold zQfl zQr zQcc z30; omega, fun j k => ⟨by unfold zQfl zQr zQcc z30; omega, by unfold zQfl zQr zQcc z30; omega, by unfold zQfl zQr zQcc z30; omega, by unfold zQfl zQr zQcc z30; omega⟩⟩, h.2.2.2.2.only ho ⟨by unfold zQfl zQr zQcc z30; omega, fun j e => by unfold zQfl zQr zQcc z30; omega⟩⟩
theorem zCC.pl (h : zCC A σ) (ho : zOnly zQpl σ σ') (hc : zCR A σ') (hp : zCP A σ') : zCC A σ' :=
  ⟨hc, h.2.1.on ho ⟨by unfold zQpl; omega, by unfold zQpl; omega⟩, h.2.2.1.on ho ⟨by unfold zQpl; omega, by unfold zQpl; omega, by unfold zQpl; omega, fun k => by unfold zQpl; omega⟩, hp, h.2.2.2.2.only ho ⟨by unfold zQpl; omega, fun j e => by unfold zQpl; omega⟩⟩
theorem zCC.yw (h : zCC A σ) (ho : zOnly zQyw σ σ') (hc : zCR A σ') (hy : zCY A σ') : zCC A σ' :=
  ⟨hc, h.2.1.on ho ⟨by unfold zQyw zQr zQcy; omega, by unfold zQyw zQr zQcy; omega⟩, h.2.2.1.on ho ⟨by unfold zQyw zQr zQcy; omega, by unfold zQyw zQr zQcy; omega, by unfold zQyw zQr zQcy; omega, fun k => by unfold zQyw zQr zQcy; omega⟩, h.2.2.2.1.only ho ⟨fun k _ => by unfold zQyw zQr zQcy; omega, fun j k => ⟨by unfold zQyw zQr zQcy; omega, by unfold zQyw zQr zQcy; omega, by unfold zQyw zQr zQcy; omega, by unfold zQyw zQr zQcy; omega⟩⟩, hy⟩
/-- numbers that name -/
theorem tI_of {t : Nat} (hW : zWf A) (h : t < aN A) : tI A (nI t) = true := by
  have hN : aN A ≤ 24 := hW.1.2.2.2.2.1
  unfold tI
  rw [nI_toInt (by omega), decide_eq_true (by omega), decide_eq_true (by omega)]
  rfl
theorem mI_of {t : Nat} (hW : zWf A) (h : t < aM A) : mI A (nI t) = true := by
  have hN : aM A ≤ 60 := hW.1.2.2.2.2.2.1
  unfold mI
  rw [nI_toInt (by omega), decide_eq_true (by omega), decide_eq_true (by omega)]
  rfl
theorem vI_of {t : Nat} (hW : zWf A) (h : t < aV A) : vI A (nI t) = true := by
  have hN : aV A ≤ 3 := hW.1.2.2.2.2.2.2
  unfold vI
  rw [nI_toInt (by omega), decide_eq_true (by omega), decide_eq_true (by omega)]
  rfl
theorem nI_i {a b : Nat} (h : nI a = nI b) (ha : a < 2 ^ 31) (hb : b < 2 ^ 31) : a = b := (nI_eqI ha hb).mp h
end zGl
