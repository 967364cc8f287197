/-! things and measures that are made (class) -/
/-- references stay, or come to be of the right kind -/
def zTyp (σ σ' : zSt) : Prop := (∀ j k, zgr σ' 23 j k = zgr σ 23 j k ∨ (zgr σ' 23 j k).1 = 16) ∧ ∀ j k, zgr σ' 26 j k = zgr σ 26 j k ∨ (zgr σ' 26 j k).1 = 17
theorem zTyp.tr {a b c : zSt} (h1 : zTyp a b) (h2 : zTyp b c) : zTyp a c := by
  refine ⟨fun j k => ?_, fun j k => ?_⟩
  · rcases h2.1 j k with q | q
    · rw [q]; exact h1.1 j k
    · exact Or.inr q
  · rcases h2.2 j k with q | q
    · rw [q]; exact h1.2 j k
    · exact Or.inr q
/-- a change of some places, and of objects that were not there -/
def zMad (m : Nat → Nat → Nat → Prop) (σ σ' : zSt) : Prop := zOnly (fun c j k => (c = 16 ∧ zcn σ 16 ≤ j) ∨ (c = 17 ∧ zcn σ 17 ≤ j) ∨ m c j k) σ σ' ∧ (∀ c, zcn σ c ≤ zcn σ' c) ∧ zTyp σ σ'
theorem zMad.tr {m : Nat → Nat → Nat → Prop} {a b c : zSt} (h1 : zMad m a b) (h2 : zMad m b c) : zMad m a c :=
  ⟨h1.1.tr (h2.1.mono (fun x j k h => by
    rcases h with ⟨q, r⟩ | ⟨q, r⟩ | q
    · exact Or.inl ⟨q, Nat.le_trans (h1.2.1 16) r⟩
    · exact Or.inr (Or.inl ⟨q, Nat.le_trans (h1.2.1 17) r⟩)
    · exact Or.inr (Or.inr q))), fun x => Nat.le_trans (h1.2.1 x) (h2.2.1 x), h1.2.2.tr h2.2.2⟩
theorem zMad.of {m : Nat → Nat → Nat → Prop} {a b : zSt} (h : zOnly m a b) (hh : b.2.2.2 = a.2.2.2) (hm : ∀ j k, ¬ m 23 j k ∧ ¬ m 26 j k) : zMad m a b := ⟨h.mono (fun x j k q => Or.inr (Or.inr q)), fun c => by unfold zcn; rw [hh]; exact Nat.le_refl _, fun j k => Or.inl (h.r 23 j k (hm j k).1), fun j k => Or.inl (h.r 26 j k (hm j k).2)⟩
theorem zMad.mono {m m' : Nat → Nat → Nat → Prop} {a b : zSt} (h : zMad m a b) (hm : ∀ c j k, m c j k → m' c j k) : zMad m' a b := ⟨h.1.mono (fun c j k q => by
    rcases q with q | q | q
    · exact Or.inl q
    · exact Or.inr (Or.inl q)
    · exact Or.inr (Or.inr (hm c j k q))), h.2⟩
theorem zMad.new {m : Nat → Nat → Nat → Prop} {σ : zSt} {c : Nat} (hc : c = 16 ∨ c = 17) : zMad m σ (znew σ c) := by
  refine ⟨fun a b e hn => ?_, fun a => ?_, fun j k => Or.inl ?_, fun j k => Or.inl ?_⟩
  · have : ¬ (a = c ∧ b = zcn σ c) := fun q => hn (by
      rcases hc with rfl | rfl
      · exact Or.inl ⟨q.1, by omega⟩
      · exact Or.inr (Or.inl ⟨q.1, by omega⟩))
    rw [zgi_new, zgl_new, zgr_new, if_neg this, if_neg this, if_neg this]
    exact ⟨rfl, rfl, rfl⟩
  · rw [zcn_new]
    split
    · next h => rw [h]; omega
    · exact Nat.le_refl _
  · rw [zgr_new, if_neg (by omega)]
  · rw [zgr_new, if_neg (by omega)]
theorem zRD.mk {A : zAb} {σ σ' : zSt} {m : Nat → Nat → Nat → Prop} (h : zRD A σ 0) (hk : zMad m σ σ') (hm : ∀ c j k, zBD c j k → ¬ m c j k) : zRD A σ' 0 := h.of hk.2.1 (fun c j k hb hj => hk.1 c j k (fun q => by
  rcases q with ⟨q, r⟩ | ⟨q, r⟩ | q
  · have := hj (Or.inl q); subst q; omega
  · have := hj (Or.inr q); subst q; omega
  · exact hm c j k hb q))
section zTw
variable {d kc ks : Nat} {σ : zSt} {A : zAb} {Q : Option zV → zSt → Prop}
abbrev zQt0 (n : Nat) (c j k : Nat) : Prop := ((c = 23 ∨ c = 24 ∨ c = 25) ∧ j = 0 ∧ k = n) ∨ (c = 7 ∧ j = 0 ∧ k = 3)
theorem S_X1_addThing {K : Int32 → zSt → Prop} (hR : zRD A σ 0) (k : Nat) (c m ti : Int) (x y z : Int32) (hx : x = iI (if k = 0 then -9 else c)) (hy : y = iI m) (hz : z = iI ti) (hN : aN A < 24) (hK : ∀ σ', zRD (aThing A k c m ti) σ' 0 → zMad (zQt0 (aN A)) σ σ' → K (nI (aN A)) σ') : zCi true (d + 2) 1 5 M_X1_addThing [.inr (.inr (7, 0)), .inl (nI k), .inl (x), .inl (y), .inl (z)] σ K := by
  subst hy hz
  have hn : zgi σ 7 0 3 = nI (aN A) := hR.1.2.2.2.1
  have i24 : vp_in (nI (aN A)) 24 := nI_in (by omega) (by omega)
  have r1 : zgr σ 23 0 (aN A) = zgr σ 23 0 (aN A) := rfl
  refine zC_intro pl_X1 (Nat.le_of_ble_eq_true rfl) (T_X1_addThing_0 (kc := 0) (ks := 0) (zC_intro pl_X9 (Nat.le_of_ble_eq_true rfl) (T_X9_init_0 ⟨rfl, ?_⟩)))
  rw [hn, nI_clamp (show aN A < 2 ^ 31 by omega)]
  refine ⟨i24, i24, i24, _, rfl, ?_⟩
  have e3 : zgi (zsi (zsi (zsi (zsi (zsi (znew σ 16) 16 (zcn σ 16) 0 (nI (aN A))) 16 (zcn σ 16) 1 (nI k)) 16 (zcn σ 16) 2 x) 16 (zcn σ 16) 3 (iI m)) 16 (zcn σ 16) 4 (iI ti)) 7 0 3 + 1 = nI (aN A + 1) := by
    simp only [zgi_si]
    simp [zgi_new, hn, nI_succ]
  rw [e3]
  have hO : zMad (zQt0 (aN A)) σ (zsi (zsi (zsl (zsr (zsi (zsi (zsi (zsi (zsi (znew σ 16) 16 (zcn σ 16) 0 (nI (aN A))) 16 (zcn σ 16) 1 (nI k)) 16 (zcn σ 16) 2 x) 16 (zcn σ 16) 3 (iI m)) 16 (zcn σ 16) 4 (iI ti)) 23 0 (aN A) (16, zcn σ 16)) 24 0 (aN A) (-1)) 25 0 (aN A) (-9)) 7 0 3 (nI (aN A + 1))) := by
    refine ⟨(zMad.new (m := zQt0 (aN A)) (Or.inl rfl)).1.tr ?_, (zMad.new (m := zQt0 (aN A)) (Or.inl rfl)).2.1, fun j e => ?_, fun j e => ?_⟩
    rotate_left
    · rw [zgr_si, zgr_si, zgr_sl, zgr_sr]
      by_cases z : 23 = 23 ∧ j = 0 ∧ e = aN A
      · rw [if_pos z]; exact Or.inr rfl
      · rw [if_neg z, zgr_si, zgr_si, zgr_si, zgr_si, zgr_si, zgr_new, if_neg (by omega)]; exact Or.inl rfl
    · rw [zgr_si, zgr_si, zgr_sl, zgr_sr, if_neg (by omega), zgr_si, zgr_si, zgr_si, zgr_si, zgr_si, zgr_new, if_neg (by omega)]; exact Or.inl rfl
    refine ((((((((zOnly.si ?_).tr (zOnly.si ?_)).tr (zOnly.si ?_)).tr (zOnly.si ?_)).tr (zOnly.si ?_)).tr (zOnly.sr ?_)).tr (zOnly.sl ?_)).tr (zOnly.si ?_)).tr (zOnly.si ?_) <;> omega
  have w1 : zcn σ 16 < zcn (zsi (zsi (zsl (zsr (zsi (zsi (zsi (zsi (zsi (znew σ 16) 16 (zcn σ 16) 0 (nI (aN A))) 16 (zcn σ 16) 1 (nI k)) 16 (zcn σ 16) 2 x) 16 (zcn σ 16) 3 (iI m)) 16 (zcn σ 16) 4 (iI ti)) 23 0 (aN A) (16, zcn σ 16)) 24 0 (aN A) (-1)) 25 0 (aN A) (-9)) 7 0 3 (nI (aN A + 1))) 16 := by
    show zcn σ 16 < zcn (znew σ 16) 16
    rw [zcn_new, if_pos rfl]
    omega
  have f : ∀ e, zgi (zsi (zsi (zsl (zsr (zsi (zsi (zsi (zsi (zsi (znew σ 16) 16 (zcn σ 16) 0 (nI (aN A))) 16 (zcn σ 16) 1 (nI k)) 16 (zcn σ 16) 2 x) 16 (zcn σ 16) 3 (iI m)) 16 (zcn σ 16) 4 (iI ti)) 23 0 (aN A) (16, zcn σ 16)) 24 0 (aN A) (-1)) 25 0 (aN A) (-9)) 7 0 3 (nI (aN A + 1))) 16 (zcn σ 16) e = if e = 4 then iI ti else if e = 3 then iI m else if e = 2 then x else if e = 1 then nI k else if e = 0 then nI (aN A) else 0 := fun e => by
    rw [zgi_si, if_neg (by omega), zgi_si, if_neg (by omega), zgi_sl, zgi_sr]
    simp only [zgi_si, zgi_new, true_and, and_self, if_true]
  have g3 : zgi (zsi (zsi (zsl (zsr (zsi (zsi (zsi (zsi (zsi (znew σ 16) 16 (zcn σ 16) 0 (nI (aN A))) 16 (zcn σ 16) 1 (nI k)) 16 (zcn σ 16) 2 x) 16 (zcn σ 16) 3 (iI m)) 16 (zcn σ 16) 4 (iI ti)) 23 0 (aN A) (16, zcn σ 16)) 24 0 (aN A) (-1)) 25 0 (aN A) (-9)) 7 0 3 (nI (aN A + 1))) 7 0 3 = nI (aN A + 1) := by rw [zgi_si, if_pos ⟨rfl, rfl, rfl⟩]
  have g23 : zgr (zsi (zsi (zsl (zsr (zsi (zsi (zsi (zsi (zsi (znew σ 16) 16 (zcn σ 16) 0 (nI (aN A))) 16 (zcn σ 16) 1 (nI k)) 16 (zcn σ 16) 2 x) 16 (zcn σ 16) 3 (iI m)) 16 (zcn σ 16) 4 (iI ti)) 23 0 (aN A) (16, zcn σ 16)) 24 0 (aN A) (-1)) 25 0 (aN A) (-9)) 7 0 3 (nI (aN A + 1))) 23 0 (aN A) = (16, zcn σ 16) := by rw [zgr_si, zgr_si, zgr_sl, zgr_sr, if_pos ⟨rfl, rfl, rfl⟩]
  have g24 : zgl (zsi (zsi (zsl (zsr (zsi (zsi (zsi (zsi (zsi (znew σ 16) 16 (zcn σ 16) 0 (nI (aN A))) 16 (zcn σ 16) 1 (nI k)) 16 (zcn σ 16) 2 x) 16 (zcn σ 16) 3 (iI m)) 16 (zcn σ 16) 4 (iI ti)) 23 0 (aN A) (16, zcn σ 16)) 24 0 (aN A) (-1)) 25 0 (aN A) (-9)) 7 0 3 (nI (aN A + 1))) 24 0 (aN A) = -1 := by rw [zgl_si, zgl_si, zgl_sl, if_pos ⟨rfl, rfl, rfl⟩]
  have g25 : zgi (zsi (zsi (zsl (zsr (zsi (zsi (zsi (zsi (zsi (znew σ 16) 16 (zcn σ 16) 0 (nI (aN A))) 16 (zcn σ 16) 1 (nI k)) 16 (zcn σ 16) 2 x) 16 (zcn σ 16) 3 (iI m)) 16 (zcn σ 16) 4 (iI ti)) 23 0 (aN A) (16, zcn σ 16)) 24 0 (aN A) (-1)) 25 0 (aN A) (-9)) 7 0 3 (nI (aN A + 1))) 25 0 (aN A) = -9 := by rw [zgi_si, if_neg (by omega), zgi_si, if_pos ⟨rfl, rfl, rfl⟩]
  generalize zsi (zsi (zsl (zsr (zsi (zsi (zsi (zsi (zsi (znew σ 16) 16 (zcn σ 16) 0 (nI (aN A))) 16 (zcn σ 16) 1 (nI k)) 16 (zcn σ 16) 2 x) 16 (zcn σ 16) 3 (iI m)) 16 (zcn σ 16) 4 (iI ti)) 23 0 (aN A) (16, zcn σ 16)) 24 0 (aN A) (-1)) 25 0 (aN A) (-9)) 7 0 3 (nI (aN A + 1)) = τ at hO w1 f g3 g23 g24 g25 ⊢
  refine hK τ ?_ hO
  obtain ⟨⟨a1, a2, a3, a4, a5, a6, a7, a8, a9⟩, h2, h3, h4⟩ := hR
  refine ⟨⟨?_, ?_, ?_, g3, ?_, ?_, ?_, ?_, ?_⟩, fun t ht => ?_, fun y hy => ?_, fun v hv => ?_⟩
  · rw [hO.1.i 7 0 0 (by omega)]; exact a1
  · rw [hO.1.i 7 0 1 (by omega)]; exact a2
  · rw [hO.1.l 7 0 2 (by omega), a3]
    exact zset_cong (fun i hi => (tp_free i).symm)
  · rw [hO.1.i 7 0 7 (by omega), a5]
    refine yset_cong (fun i hi => ?_)
    rw [tp_Tr]
    show _ = (decide (i < aN A + 1) && _)
    by_cases z : i = aN A
    · rw [if_pos z, decide_eq_false (by omega), Bool.and_false, Bool.false_and]
    · rw [if_neg z]
      congr 1
      rw [decide_eq_decide]
      omega
  · rw [hO.1.i 7 0 8 (by omega)]; exact a6
  · rw [hO.1.l 7 0 10 (by omega), a7]
    exact zset_cong (fun i hi => by rw [tp_O]; rfl)
  · rw [hO.1.i 7 0 11 (by omega)]; exact a8
  · rw [hO.1.i 7 0 15 (by omega), tp_Al]; exact a9
  · rw [tp_N] at ht
    by_cases z : t = aN A
    · subst z
      refine ⟨⟨zcn σ 16, g23, w1, ?_, ?_, ?_, ?_, ?_⟩, ?_, ?_⟩
      · rw [f]; simp
      · rw [f, tp_K, if_pos rfl]; simp
      · rw [f, tp_C, hx]; simp
      · rw [f, tp_Mo, if_pos rfl]; simp
      · rw [f, tp_Ti, if_pos rfl]; simp
      · rw [g24]
        refine zset_eq (fun i hi => ?_)
        rw [tb_m1 hi]
        unfold abox
        rw [tp_X1, tp_X2, tp_Y1, tp_Y2, if_pos rfl, if_pos rfl, if_pos rfl, if_pos rfl]
        simp
        omega
      · rw [g25, tp_Mp, if_pos rfl]; rfl
    · obtain ⟨⟨n, q1, q2, q3, q4, q5, q6, q7⟩, q8, q9⟩ := h2 t (by omega)
      refine ⟨⟨n, ?_, Nat.lt_of_lt_of_le q2 (hO.2.1 16), ?_, ?_, ?_, ?_, ?_⟩, ?_, ?_⟩
      · rw [hO.1.r 23 0 t (by omega)]; exact q1
      · rw [hO.1.i 16 n 0 (by omega)]; exact q3
      · rw [hO.1.i 16 n 1 (by omega), tp_K, if_neg z]; exact q4
      · rw [hO.1.i 16 n 2 (by omega), tp_C, if_neg z]; exact q5
      · rw [hO.1.i 16 n 3 (by omega), tp_Mo, if_neg z]; exact q6
      · rw [hO.1.i 16 n 4 (by omega), tp_Ti, if_neg z]; exact q7
      · rw [hO.1.l 24 0 t (by omega), q8]
        refine zset_cong (fun i hi => ?_)
        unfold abox
        rw [tp_X1, tp_X2, tp_Y1, tp_Y2, if_neg z, if_neg z, if_neg z, if_neg z]
      · rw [hO.1.i 25 0 t (by omega), tp_Mp, if_neg z]; exact q9
  · obtain ⟨n, q1, q2, q3, q4, q5, q6, q7, q8⟩ := h3 y hy
    refine ⟨n, ?_, Nat.lt_of_lt_of_le q2 (hO.2.1 17), ?_, ?_, ?_, ?_, ?_, ?_⟩
    · rw [hO.1.r 26 0 y (by omega)]; exact q1
    · rw [hO.1.i 17 n 0 (by omega)]; exact q3
    · rw [hO.1.i 17 n 1 (by omega), tp_mK]; exact q4
    · rw [hO.1.i 17 n 2 (by omega), tp_mA]; exact q5
    · rw [hO.1.i 17 n 3 (by omega), tp_mB]; exact q6
    · rw [hO.1.i 17 n 4 (by omega), tp_mP]; exact q7
    · rw [hO.1.i 17 n 5 (by omega), tp_mQ]; exact q8
  · obtain ⟨q1, q2, q3⟩ := h4 v hv
    rw [hO.1.i 27 0 v (by omega), hO.1.i 28 0 v (by omega), hO.1.i 29 0 v (by omega), tp_vF, tp_vT, tp_vR]
    exact ⟨q1, q2, q3⟩
theorem zForg.mk {σ' : zSt} (o : zOnly (fun c _ k => zCh c k) σ σ') (h : σ'.2.2.2 = σ.2.2.2) : zMad (fun c _ k => zCh c k) σ σ' := zMad.of o h (fun j k => by unfold zCh; omega)
abbrev zQth (c j k : Nat) : Prop := ((c = 23 ∨ c = 24 ∨ c = 25) ∧ j = 0) ∨ (c = 7 ∧ j = 0 ∧ k = 3) ∨ zCh c k
theorem O_X11_thing {K : Int32 → zSt → Prop} (hW : zWf A) (hR : zRD A σ 0) (a b : Int32) (hout : ¬ (0 ≤ a.toInt ∧ a.toInt ≤ 2) → K (-2) σ) (hun : (0 < a.toInt ∧ a.toInt ≤ 2) → ¬ acI A b = true → K (-1) σ) (hst : ∀ x, (0 < a.toInt ∧ a.toInt ≤ 2) → x < 64 → b = nI x → acell A x = true → aWl A x = true → K (-3) σ)
    (hfull : (0 ≤ a.toInt ∧ a.toInt ≤ 2) → (0 < a.toInt → ∃ x, x < 64 ∧ b = nI x ∧ afree A x = true) → aN A = 24 → K (-4) σ)
    (hyes : ∀ k, k ≤ 2 → a = nI k → (0 < k → ∃ x, x < 64 ∧ b = nI x ∧ afree A x = true) → aN A < 24 → ∀ σ', zRD (aThing A k b.toInt (-9) (-9)) σ' 0 → zMad zQth σ σ' → zForg σ' → K (nI (aN A)) σ') : zCi true (d + 3) 1 5 M_X11_thing [.inr (.inr (6, 0)), .inl (a), .inl (b)] σ K := by
  have hN : aN A ≤ 24 := hW.1.2.2.2.2.1
  have hin : (0 ≤ a ∧ a ≤ (2 : Int32)) ↔ (0 ≤ a.toInt ∧ a.toInt ≤ 2) := zin_k a (l := 0) (h := 2) (by omega) (by omega)
  have z0 : a = 0 ↔ a.toInt = 0 := by rw [← Int32.toInt_inj, Int32.toInt_zero]
  have h50 : (0 ≤ a.toInt ∧ a.toInt ≤ 2) → (0 < a.toInt → ∃ x, x < 64 ∧ b = nI x ∧ afree A x = true) → zE true (d + 3) (1 + 0) (5 + 0) M_X11_thing 50 [some (.inr (.inr (6, 0))), some (.inl a), some (.inl b), none] [] σ (fun r σ' => ∃ x, r = some (.inl x) ∧ K x σ') := by
    intro h1 h2
    refine T_X11_thing_50 (k1 := 1) (m1 := 5) (kc := 0) (ks := 0) ⟨fun g x hx => ?_, fun g => ⟨_, rfl, hfull h1 h2 ?_⟩⟩
    · rw [zrd_nT hR, show (24 : Int32) = nI 24 from rfl, nI_ltI (by omega) (by omega)] at g
      obtain ⟨k, hk, rfl⟩ : ∃ k : Nat, k ≤ 2 ∧ a = nI k := ⟨a.toInt.toNat, by omega, zI_of h1.1⟩
      rw [nI_toInt (by omega)] at z0 h1 h2
      have ex : x = iI (if k = 0 then -9 else b.toInt) := by
        rw [hx]
        by_cases z : k = 0
        · rw [if_neg (fun q => q (z0.mpr (by omega))), if_pos z]; rfl
        · rw [if_pos (fun q => z (by have := z0.mp q; omega)), if_neg z, iI_of]
      refine S_X1_addThing hR k b.toInt (-9) (-9) x _ _ ex rfl rfl g (fun σ1 r1 o1 => S_X11_changed (fun σ2 o2 f2 h2' => ⟨_, rfl, ?_⟩))
      refine hyes k hk rfl (fun q => h2 (by omega)) g σ2 ?_ ?_ f2
      · exact r1.only o2 h2' (fun c j k h => by unfold zBD at h; unfold zCh; omega)
      · exact (o1.mono (fun c j k h => by unfold zQt0 at h; unfold zQth; omega)).tr ((zForg.mk o2 h2').mono (fun c j k h => Or.inr (Or.inr h)))
    · rw [zrd_nT hR, show (24 : Int32) = nI 24 from rfl, nI_ltI (by omega) (by omega)] at g
      omega
  refine zC_intro pl_X11 (Nat.le_of_ble_eq_true rfl) (T_X11_thing_0 (k1 := 1) (m1 := 5) (kc := 0) (ks := 0) ⟨fun h => ⟨fun g => T_X11_thing_29 ⟨fun _ => h50 ?_ ?_, fun q => absurd (Or.inl g) q⟩, fun g => S_X1_isCell hW hR b ⟨fun q => ?_, fun q => ⟨_, rfl, hun ?_ ?_⟩⟩⟩, fun h => ⟨_, rfl, hout ?_⟩⟩)
  · rw [zb_0, Decidable.not_not, hin] at h
    exact h
  · rw [z0] at g
    intro q
    omega
  · rw [zb_0, Decidable.not_not, hin] at h
    rw [z0] at g
    rw [zb_0, Decidable.not_not] at q
    obtain ⟨x, hx, hc, rfl⟩ := acI_nI q
    refine T_X11_thing_29 ⟨fun y => h50 h (fun _ => ⟨x, hx, rfl, ?_⟩), fun y => ⟨_, rfl, hst x (by omega) hx rfl hc ?_⟩⟩
    · rcases y with y | y
      · exact absurd (z0.mp y) g
      · rw [hR.1.2.2.1, zh_b hx, zb_0, Decidable.not_not] at y
        exact y
    · have y2 := fun z => y (Or.inr z)
      rw [hR.1.2.2.1, zh_b hx, zb_0, Decidable.not_not] at y2
      unfold afree at y2
      rw [hc] at y2
      simpa using y2
  · rw [zb_0, Decidable.not_not, hin] at h
    rw [z0] at g
    omega
  · rw [zb_0] at q
    exact q
  · rw [zb_0, hin] at h
    exact h
end zTw
