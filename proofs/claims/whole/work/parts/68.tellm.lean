/-! telling and greeting, as the reference does -/
section zMf
variable {d kc ks : Nat} {σ : zSt} {A : zAb} {H : zHo} {B : zSh} {Q : Option zV → zSt → Prop}
theorem zo78 (σ : zSt) (x : Int32) : zOnly (fun c _ k => c = 54 ∧ k = 78) σ (zsi σ 54 0 78 x) := zOnly.si ⟨rfl, rfl⟩
theorem S_X12_tellMeasure {K : Int32 → zSt → Prop} {k : Nat} (hk : k < 8) {h s m : Int} (hh : h = 0 ∨ h = 1 ∨ h = 2 ∨ h = 3 ∨ h = 4) (e95 : zgi σ 95 0 k = iI h) (e96 : zgi σ 96 0 k = iI s) (e97 : zgi σ 97 0 k = iI m) (hK : ∀ σ', zTr σ σ' (trM h) → K (iI (tlM h s m)) σ') : zCi true (d + 2) 0 0 M_X12_tellMeasure [.inr (.inr (54, 0)), .inl (nI k)] σ K := by
  have i8 : vp_in (nI k) 8 := nI_in (by omega) (by omega)
  have fin : ∀ σ' : zSt, zTr σ σ' (trM h) → zE true (d + 2) 0 0 M_X12_tellMeasure 87 [none, none, some (.inl (iI h)), some (.inl (iI s)), some (.inl (iI s + iI m))] [] σ' (fun r σ' => ∃ x, r = some (.inl x) ∧ K x σ') := by
    intro σ' ht
    refine T_X12_tellMeasure_87 (fun x hx => ⟨_, rfl, ?_⟩)
    have q := hK σ' ht
    have e1 : iI s + iI m = iI (s + m) := iI_add s m
    have e2 : iI (s + m) - 1000 = iI (s + m - 1000) := iI_sub (s + m) 1000
    have e3 : iI (s + m - 1000) + iI s = iI (s + m - 1000 + s) := iI_add _ _
    have e4 : 2 * iI (s + m) = iI (2 * (s + m)) := iI_mul 2 _
    have g : x = iI (tlM h s m) := by
      rw [hx, e1, e2, e3, e4]
      rcases hh with rfl | rfl | rfl | rfl | rfl <;> rfl
    rw [g]
    exact q
  refine zC_intro pl_X12 (Nat.le_of_ble_eq_true rfl) (T_X12_tellMeasure_0 ?_)
  rw [nI_clamp (show k < 2 ^ 31 by omega), e95, e96, e97]
  refine ⟨i8, i8, i8, ?_⟩
  have t1 : ∀ x : Int32, zgi (zsi σ 54 0 78 x) 54 0 78 = x := fun x => by rw [zgi_si, if_pos ⟨rfl, rfl, rfl⟩]
  have tt : ∀ (σ : zSt) (x : Int32), zgi (zsi σ 54 0 78 x) 54 0 78 = x := fun σ x => by rw [zgi_si, if_pos ⟨rfl, rfl, rfl⟩]
  rcases hh with rfl | rfl | rfl | rfl | rfl
  · refine ⟨fun _ => T_X12_tellMeasure_35 ⟨fun g => absurd g (by decide), fun _ => T_X12_tellMeasure_51 ⟨fun _ => T_X12_tellMeasure_62 ⟨fun g => absurd g (by decide), fun _ => S_X12_traced 5 (T_X12_tellMeasure_72 (S_X12_traced 4 ⟨fun _ => fin _ ⟨(zo78 _ _).tr (zo78 _ _), ?_⟩, fun g => absurd g (by decide)⟩))⟩, fun g => absurd g (by decide)⟩⟩, fun g => absurd g (by decide)⟩
    rw [tt, tt]; rfl
  · refine ⟨fun _ => T_X12_tellMeasure_35 ⟨fun _ => T_X12_tellMeasure_45 (S_X12_traced 6 (T_X12_tellMeasure_51 ⟨fun _ => T_X12_tellMeasure_62 ⟨fun g => absurd g (by decide), fun _ => S_X12_traced 5 (T_X12_tellMeasure_72 (S_X12_traced 4 ⟨fun _ => fin _ ⟨((zo78 _ _).tr (zo78 _ _)).tr (zo78 _ _), ?_⟩, fun g => absurd g (by decide)⟩))⟩, fun g => absurd g (by decide)⟩)), fun g => absurd (by decide) g⟩, fun g => absurd g (by decide)⟩
    rw [tt, tt, tt]; rfl
  · refine ⟨fun g => absurd rfl g, fun _ => S_X12_traced 7 (T_X12_tellMeasure_35 ⟨fun _ => T_X12_tellMeasure_45 (S_X12_traced 6 (T_X12_tellMeasure_51 ⟨fun _ => T_X12_tellMeasure_62 ⟨fun g => absurd g (by decide), fun _ => S_X12_traced 5 (T_X12_tellMeasure_72 (S_X12_traced 4 ⟨fun g => absurd rfl g, fun _ => S_X12_traced 4 (fin _ ⟨((((zo78 _ _).tr (zo78 _ _)).tr (zo78 _ _)).tr (zo78 _ _)).tr (zo78 _ _), ?_⟩)⟩))⟩, fun g => absurd g (by decide)⟩)), fun g => absurd (by decide) g⟩)⟩
    rw [tt, tt, tt, tt, tt]; rfl
  · refine ⟨fun _ => T_X12_tellMeasure_35 ⟨fun g => absurd g (by decide), fun _ => T_X12_tellMeasure_51 ⟨fun _ => T_X12_tellMeasure_62 ⟨fun _ => T_X12_tellMeasure_72 (S_X12_traced 4 ⟨fun _ => fin _ ⟨zo78 _ _, ?_⟩, fun g => absurd g (by decide)⟩), fun g => absurd rfl g⟩, fun g => absurd g (by decide)⟩⟩, fun g => absurd g (by decide)⟩
    rw [tt]; rfl
  · refine ⟨fun _ => T_X12_tellMeasure_35 ⟨fun g => absurd g (by decide), fun _ => T_X12_tellMeasure_51 ⟨fun g => absurd rfl g, fun _ => S_X12_traced 8 (T_X12_tellMeasure_62 ⟨fun g => absurd g (by decide), fun _ => S_X12_traced 5 (T_X12_tellMeasure_72 (S_X12_traced 4 ⟨fun _ => fin _ ⟨((zo78 _ _).tr (zo78 _ _)).tr (zo78 _ _), ?_⟩, fun g => absurd g (by decide)⟩))⟩)⟩⟩, fun g => absurd g (by decide)⟩
    rw [tt, tt, tt]; rfl
theorem S_X12_greetThing {K : Int32 → zSt → Prop} {k : Nat} (hk : k < 8) {h n : Int} (hh : h = 0 ∨ h = 1 ∨ h = 2) (e95 : zgi σ 95 0 k = iI h) (e94 : zgi σ 94 0 k = iI n) (hK : ∀ σ', zTr σ σ' (grT h) → K (iI (gtT h n)) σ') : zCi true (d + 2) 0 0 M_X12_greetThing [.inr (.inr (54, 0)), .inl (nI k)] σ K := by
  have i8 : vp_in (nI k) 8 := nI_in (by omega) (by omega)
  have tt : ∀ (σ : zSt) (x : Int32), zgi (zsi σ 54 0 78 x) 54 0 78 = x := fun σ x => by rw [zgi_si, if_pos ⟨rfl, rfl, rfl⟩]
  have fin : ∀ σ' : zSt, zTr σ σ' (grT h) → (vp_in (nI k) 8) ∧ ((vp_in (nI k) 8) ∧ ((∀ x3 : Int32, x3 = (if ¬ (zgi σ' 95 0 (nI k).toNatClampNeg) = 2 then 0 else 500) → ∃ x, some (Sum.inl ((zgi σ' 94 0 (nI k).toNatClampNeg) + x3) : zV) = some (.inl x) ∧ K x σ'))) := by
    intro σ' ht
    have q := hK σ' ht
    rw [nI_clamp (show k < 2 ^ 31 by omega), ht.1.i 95 0 k (by omega), ht.1.i 94 0 k (by omega), e95, e94]
    refine ⟨i8, i8, fun x hx => ⟨_, rfl, ?_⟩⟩
    have g : x = iI (if h = 2 then 500 else 0) := by
      rw [hx]
      rcases hh with rfl | rfl | rfl <;> rfl
    rw [g, iI_add]
    exact q
  refine zC_intro pl_X12 (Nat.le_of_ble_eq_true rfl) (T_X12_greetThing_0 ?_)
  rw [nI_clamp (show k < 2 ^ 31 by omega), e95]
  refine ⟨i8, fun g => T_X12_greetThing_16 (S_X12_traced 9 (fin _ ⟨zo78 _ _, ?_⟩)), fun g => S_X12_traced 10 (T_X12_greetThing_16 (S_X12_traced 9 (fin _ ⟨(zo78 _ _).tr (zo78 _ _), ?_⟩)))⟩
  · rw [tt]
    rcases hh with rfl | rfl | rfl
    · rfl
    · rfl
    · exact absurd rfl g
  · rw [tt, tt]
    rcases hh with rfl | rfl | rfl
    · exact absurd g (by decide)
    · exact absurd g (by decide)
    · rfl
theorem S_X12_weighMeasure {K : Int32 → zSt → Prop} {k : Nat} (hk : k < 8) {h : Int} (hh : h = 0 ∨ h = 1 ∨ h = 2 ∨ h = 3 ∨ h = 4) (e95 : zgi σ 95 0 k = iI h) (hK : ∀ σ', zTr σ σ' (grM h) → K (iI (gtM h)) σ') : zCi true (d + 2) 0 0 M_X12_weighMeasure [.inr (.inr (54, 0)), .inl (nI k)] σ K := by
  have i8 : vp_in (nI k) 8 := nI_in (by omega) (by omega)
  have tt : ∀ (σ : zSt) (x : Int32), zgi (zsi σ 54 0 78 x) 54 0 78 = x := fun σ x => by rw [zgi_si, if_pos ⟨rfl, rfl, rfl⟩]
  refine zC_intro pl_X12 (Nat.le_of_ble_eq_true rfl) (T_X12_weighMeasure_0 ?_)
  rw [nI_clamp (show k < 2 ^ 31 by omega), e95]
  refine ⟨i8, ?_⟩
  rcases hh with rfl | rfl | rfl | rfl | rfl
  · refine ⟨fun _ => T_X12_weighMeasure_18 ⟨fun g => absurd g (by decide), fun _ => T_X12_weighMeasure_39 ⟨fun _ => T_X12_weighMeasure_53 (S_X12_traced 11 (T_X12_weighMeasure_59 ⟨fun g => absurd g (by decide), fun _ => ⟨fun _ x hx => ⟨x, rfl, ?_⟩, fun g => absurd g (by decide)⟩⟩)), fun g => absurd (by decide) g⟩⟩, fun g => absurd g (by decide)⟩
    subst hx
    exact hK _ ⟨zo78 _ _, by rw [tt]; rfl⟩
  · exact ⟨fun _ => T_X12_weighMeasure_18 ⟨fun _ => T_X12_weighMeasure_33 (S_X12_traced 12 (T_X12_weighMeasure_39 ⟨fun g => absurd g (by decide), fun _ => T_X12_weighMeasure_59 ⟨fun _ => ⟨_, rfl, hK _ ⟨zo78 _ _, by rw [tt]; rfl⟩⟩, fun g => absurd rfl g⟩⟩)), fun g => absurd (by decide) g⟩, fun g => absurd g (by decide)⟩
  · exact ⟨fun _ => T_X12_weighMeasure_18 ⟨fun _ => T_X12_weighMeasure_33 (S_X12_traced 12 (T_X12_weighMeasure_39 ⟨fun g => absurd g (by decide), fun _ => T_X12_weighMeasure_59 ⟨fun g => absurd g (by decide), fun _ => ⟨fun g => absurd rfl g, fun _ => ⟨_, rfl, hK _ ⟨zo78 _ _, by rw [tt]; rfl⟩⟩⟩⟩⟩)), fun g => absurd (by decide) g⟩, fun g => absurd g (by decide)⟩
  · refine ⟨fun _ => T_X12_weighMeasure_18 ⟨fun g => absurd g (by decide), fun _ => T_X12_weighMeasure_39 ⟨fun _ => T_X12_weighMeasure_53 (S_X12_traced 11 (T_X12_weighMeasure_59 ⟨fun g => absurd g (by decide), fun _ => ⟨fun _ x hx => ⟨x, rfl, ?_⟩, fun g => absurd g (by decide)⟩⟩)), fun g => absurd (by decide) g⟩⟩, fun g => absurd g (by decide)⟩
    subst hx
    exact hK _ ⟨zo78 _ _, by rw [tt]; rfl⟩
  · refine ⟨fun g => absurd rfl g, fun _ => S_X12_traced 13 (T_X12_weighMeasure_18 ⟨fun _ => T_X12_weighMeasure_33 (S_X12_traced 12 (T_X12_weighMeasure_39 ⟨fun _ => T_X12_weighMeasure_53 (S_X12_traced 11 (T_X12_weighMeasure_59 ⟨fun g => absurd g (by decide), fun _ => ⟨fun _ x hx => ⟨x, rfl, ?_⟩, fun g => absurd g (by decide)⟩⟩)), fun g => absurd (by decide) g⟩)), fun g => absurd (by decide) g⟩)⟩
    subst hx
    exact hK _ ⟨((zo78 _ _).tr (zo78 _ _)).tr (zo78 _ _), by rw [tt, tt, tt]; rfl⟩
/-- a call that leaves numbers in TRACE and sets the fault -/
def zTf (σ σ' : zSt) (f : Int) (l : List Int32) : Prop := zOnly (fun c _ k => c = 54 ∧ (k = 78 ∨ k = 0)) σ σ' ∧ zgi σ' 54 0 78 = trF (zgi σ 54 0 78) l ∧ zgi σ' 54 0 0 = iI f
theorem zTf.z (σ : zSt) (f : Int) : zTf σ (zsi σ 54 0 0 (iI f)) f [] := ⟨zOnly.si ⟨rfl, Or.inr rfl⟩, by rw [zgi_si, if_neg (by omega)]; rfl, by rw [zgi_si, if_pos ⟨rfl, rfl, rfl⟩]⟩
theorem zTf.t {σ σ' : zSt} {l : List Int32} (h : zTr σ σ' l) : zTf σ (zsi σ' 54 0 0 0) 0 l := ⟨(h.1.mono (fun c j k h => ⟨h.1, Or.inl h.2⟩)).tr (zOnly.si ⟨rfl, Or.inr rfl⟩), by rw [zgi_si, if_neg (by omega)]; exact h.2, by rw [zgi_si, if_pos ⟨rfl, rfl, rfl⟩]; rfl⟩
theorem S_X12_faultOf {K : Int32 → zSt → Prop} (hW : zWh H) (hH : zRh H σ) {k : Nat} (hk : k < 8) {e : Int32} (he : e = 0 ∨ e = 1) (hK : K (iI (if H.1 k < 0 then 1 else if ¬ H.1 k = e.toInt then 2 else 0)) σ) : zCi true (d + 1) 0 0 M_X12_faultOf [.inr (.inr (54, 0)), .inl (nI k), .inl (e)] σ K := by
  have i8 : vp_in (nI k) 8 := nI_in (by omega) (by omega)
  have r := wh_rng hW hk
  have c0 : (0 : Int32) ≤ iI (H.1 k) ↔ 0 ≤ H.1 k := iI_le (a := 0) (by omega) (by omega)
  have hr := fb_rng e
  have c1 : iI (H.1 k) = e ↔ H.1 k = e.toInt := by
    have := iI_eqI (a := H.1 k) (b := e.toInt) (by omega) (by omega)
    rw [iI_of] at this
    exact this
  refine zC_intro pl_X12 (Nat.le_of_ble_eq_true rfl) (T_X12_faultOf_0 ⟨i8, fun _ => i8, fun x hx => ⟨_, rfl, ?_⟩⟩)
  rw [nI_clamp (show k < 2 ^ 31 by omega), (hH k hk).1] at hx
  have ex : x = iI (if H.1 k < 0 then 1 else if ¬ H.1 k = e.toInt then 2 else 0) := by
    rw [hx]
    by_cases z : H.1 k < 0
    · rw [if_neg (fun q => by have := c0.mp q; omega), if_pos z]; rfl
    · rw [if_pos (c0.mpr (by omega)), if_neg z]
      by_cases z2 : H.1 k = e.toInt
      · rw [if_neg (fun q => q (c1.mpr z2)), if_neg (fun q => q z2)]; rfl
      · rw [if_pos (fun q => z2 (c1.mp q)), if_pos z2]; rfl
  rw [ex]
  exact hK
theorem O_X12_tell {K : Int32 → zSt → Prop} (hW : zWh H) (hH : zRh H σ) (a e : Int32) (hK : ∀ σ', zTf σ σ' (tlF H a e).2.1 (tlF H a e).2.2 → K (iI (tlF H a e).1) σ') : zCi true (d + 3) 0 0 M_X12_tell [.inr (.inr (54, 0)), .inl (a), .inl (e)] σ K := by
  refine zC_intro pl_X12 (Nat.le_of_ble_eq_true rfl) (T_X12_tell_0 (S_X12_noHold a ⟨fun h => ⟨fun h2 => ?_, fun h2 => S_X12_refused _ ⟨_, rfl, ?_⟩⟩, fun h => S_X12_refused _ ⟨_, rfl, ?_⟩⟩))
  · rw [zb_0, Decidable.not_not] at h
    rw [zb_0, Decidable.not_not, i01] at h2
    unfold tlF at hK
    rw [if_neg (fun q => q h), if_neg (fun q => q h2)] at hK
    obtain ⟨k, hk, rfl⟩ := hoI_nI h
    rw [nI_toInt (show k < 2 ^ 31 by omega), Int.toNat_natCast] at hK
    have w := hW k hk
    refine S_X12_faultOf hW hH hk h2 ⟨fun g => ?_, fun g => S_X12_faultOf hW hH hk h2 (S_X12_failed _ ⟨_, rfl, ?_⟩)⟩
    · by_cases z : H.1 k < 0
      · rw [if_pos z] at g; exact absurd g (by decide)
      · rw [if_neg z] at g hK
        by_cases z2 : H.1 k = e.toInt
        · rw [if_neg (fun q => q z2)] at hK
          obtain ⟨e94, e95, e96, e97⟩ := (hH k hk).2 (by omega)
          refine ⟨fun g2 => ?_, fun g2 => ?_⟩
          · have e1 : e = 1 := h2.resolve_left g2
            rw [if_neg g2] at hK
            have z3 : H.1 k = 1 := by rw [z2, e1]; rfl
            refine S_X12_tellMeasure hk (by omega) e95 e96 e97 (fun σ' ht => T_X12_tell_68 (S_X12_refused _ ⟨_, rfl, hK _ (zTf.t ht)⟩))
          · rw [if_pos g2] at hK
            have z3 : H.1 k = 0 := by rw [z2, g2]; rfl
            refine S_X12_tellThing hk (by omega) e95 e96 e97 (fun σ' ht => T_X12_tell_68 (S_X12_refused _ ⟨_, rfl, hK _ (zTf.t ht)⟩))
        · rw [if_pos z2] at g; exact absurd g (by decide)
    · by_cases z : H.1 k < 0
      · rw [if_pos z] at hK ⊢
        exact hK _ (zTf.z σ 1)
      · rw [if_neg z] at g hK ⊢
        by_cases z2 : H.1 k = e.toInt
        · rw [if_neg (fun q => q z2)] at g; exact absurd (by decide) g
        · rw [if_pos z2] at hK ⊢
          exact hK _ (zTf.z σ 2)
  · rw [zb_0, Decidable.not_not] at h
    rw [zb_0, i01] at h2
    unfold tlF at hK
    rw [if_neg (fun q => q h), if_pos h2] at hK
    exact hK _ (zTf.z σ 0)
  · rw [zb_0, Decidable.not_not] at h
    unfold tlF at hK
    rw [if_pos h] at hK
    exact hK _ (zTf.z σ 0)
theorem O_X12_greet {K : Int32 → zSt → Prop} (hW : zWh H) (hH : zRh H σ) (a e : Int32) (hK : ∀ σ', zTf σ σ' (grF H a e).2.1 (grF H a e).2.2 → K (iI (grF H a e).1) σ') : zCi true (d + 3) 0 0 M_X12_greet [.inr (.inr (54, 0)), .inl (a), .inl (e)] σ K := by
  refine zC_intro pl_X12 (Nat.le_of_ble_eq_true rfl) (T_X12_greet_0 (S_X12_noHold a ⟨fun h => ⟨fun h2 => ?_, fun h2 => S_X12_refused _ ⟨_, rfl, ?_⟩⟩, fun h => S_X12_refused _ ⟨_, rfl, ?_⟩⟩))
  · rw [zb_0, Decidable.not_not] at h
    rw [zb_0, Decidable.not_not, i01] at h2
    unfold grF at hK
    rw [if_neg (fun q => q h), if_neg (fun q => q h2)] at hK
    obtain ⟨k, hk, rfl⟩ := hoI_nI h
    rw [nI_toInt (show k < 2 ^ 31 by omega), Int.toNat_natCast] at hK
    have w := hW k hk
    refine S_X12_faultOf hW hH hk h2 ⟨fun g => ?_, fun g => S_X12_faultOf hW hH hk h2 (S_X12_failed _ ⟨_, rfl, ?_⟩)⟩
    · by_cases z : H.1 k < 0
      · rw [if_pos z] at g; exact absurd g (by decide)
      · rw [if_neg z] at g hK
        by_cases z2 : H.1 k = e.toInt
        · rw [if_neg (fun q => q z2)] at hK
          obtain ⟨e94, e95, e96, e97⟩ := (hH k hk).2 (by omega)
          refine ⟨fun g2 => ?_, fun g2 => ?_⟩
          · have e1 : e = 1 := h2.resolve_left g2
            rw [if_neg g2] at hK
            have z3 : H.1 k = 1 := by rw [z2, e1]; rfl
            refine S_X12_weighMeasure hk (by omega) e95 (fun σ' ht => T_X12_greet_68 (S_X12_refused _ ⟨_, rfl, hK _ (zTf.t ht)⟩))
          · rw [if_pos g2] at hK
            have z3 : H.1 k = 0 := by rw [z2, g2]; rfl
            refine S_X12_greetThing hk (by omega) e95 e94 (fun σ' ht => T_X12_greet_68 (S_X12_refused _ ⟨_, rfl, hK _ (zTf.t ht)⟩))
        · rw [if_pos z2] at g; exact absurd g (by decide)
    · by_cases z : H.1 k < 0
      · rw [if_pos z] at hK ⊢
        exact hK _ (zTf.z σ 1)
      · rw [if_neg z] at g hK ⊢
        by_cases z2 : H.1 k = e.toInt
        · rw [if_neg (fun q => q z2)] at g; exact absurd (by decide) g
        · rw [if_pos z2] at hK ⊢
          exact hK _ (zTf.z σ 2)
  · rw [zb_0, Decidable.not_not] at h
    rw [zb_0, i01] at h2
    unfold grF at hK
    rw [if_neg (fun q => q h), if_pos h2] at hK
    exact hK _ (zTf.z σ 0)
  · rw [zb_0, Decidable.not_not] at h
    unfold grF at hK
    rw [if_pos h] at hK
    exact hK _ (zTf.z σ 0)
theorem O_X12_trace {ph : Bool} {K : Int32 → zSt → Prop} (hK : K (zgi σ 54 0 78) σ) : zCi ph (d + 1) 0 0 M_X12_trace [.inr (.inr (54, 0))] σ K := zC_intro pl_X12 (Nat.le_of_ble_eq_true rfl) (T_X12_trace_0 ⟨_, rfl, hK⟩)
theorem O_X12_fault {ph : Bool} {K : Int32 → zSt → Prop} (hK : K (zgi σ 54 0 0) σ) : zCi ph (d + 1) 0 0 M_X12_fault [.inr (.inr (54, 0))] σ K := zC_intro pl_X12 (Nat.le_of_ble_eq_true rfl) (T_X12_fault_0 ⟨_, rfl, hK⟩)
end zMf
