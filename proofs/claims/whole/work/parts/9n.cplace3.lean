/-! placings (class): the search -/
theorem aAny_cg {p q : Nat → Bool} : ∀ {n : Nat}, (∀ i, i < n → p i = q i) → aAny p n = aAny q n
  | 0, _ => rfl
  | n + 1, h => by
    unfold aAny
    rw [aAny_cg (n := n) (fun i hi => h i (by omega)), h n (by omega)]
/-- cells of the member d that go with those of the members below k -/
noncomputable def lfB (A : zAb) (t d : Nat) (s : Nat → Nat) (k c : Nat) : Bool := gB A (mO A) (mbr A t d) c && !(aAl A && shut A t c) && !aAny (fun i => !prK A t i d (s i) c || (aAl A && decide (s i = c))) k
noncomputable def lqC (A : zAb) (t d : Nat) (s : Nat → Nat) (c : Nat) : Bool := gB A (mO A) (mbr A t d) c && stB A t (zup s d c) d
theorem lfB_d (A : zAb) (t d : Nat) (s : Nat → Nat) (c : Nat) : lfB A t d s d c = lqC A t d s c := by
  unfold lfB lqC stB
  have e1 : zup s d c d = c := if_pos rfl
  rw [e1, Bool.and_assoc]
  congr 2
  congr 1
  refine aAny_cg (fun i hi => ?_)
  have e2 : zup s d c i = s i := if_neg (by omega)
  rw [e2]
abbrev zPl (d : Nat) (c _j k : Nat) : Prop := (c = 45 ∧ d ≤ k) ∨ (c = 11 ∧ (k = 6 ∨ k = 7 ∨ k = 8)) ∨ c = 41
section zPu
variable {dp kc ks : Nat} {σ : zSt} {A : zAb} {Q : Option zV → zSt → Prop}
theorem zPx.only {t : Nat} {σ' : zSt} {M : Nat → Nat → Nat → Prop} (h : zPx A t σ) (ho : zOnly M σ σ') (hm : ¬ M 11 0 4 ∧ ¬ M 11 0 12 ∧ ∀ j k, ¬ M 40 j k ∧ ¬ M 42 j k ∧ ¬ M 44 j k) : zPx A t σ' :=
  ⟨⟨by rw [ho.i 11 0 4 hm.1]; exact h.1.1, by rw [ho.l 11 0 12 hm.2.1]; exact h.1.2⟩, fun i hi => ⟨by rw [ho.i 40 0 i (hm.2.2 0 i).1]; exact (h.2.1 i hi).1, by rw [ho.l 42 0 i (hm.2.2 0 i).2.1]; exact (h.2.1 i hi).2⟩, fun i j q1 q2 c e hc he hg ha => by rw [ho.l 44 _ c (hm.2.2 _ c).2.2]; exact h.2.2 i j q1 q2 c e hc he hg ha⟩
def zAt (A : zAb) (t : Nat) (σ : zSt) (s : Nat → Nat) (d : Nat) : Prop := ∀ i, i < d → zgi σ 45 0 i = nI (s i) ∧ s i < 64 ∧ gB A (mO A) (mbr A t i) (s i) = true
theorem L_X7_place58 (hW : zWf A) {t d : Nat} (h9 : gn A t ≤ 9) (hd : d < gn A t) {s : Nat → Nat} (hP : zPx A t σ) (hat : zAt A t σ s d) (hnext : zE true (dp + 3) kc ks M_X7_place 93 [some (.inr (.inr (11, 0))), some (.inl (nI d)), some (.inr (.inl (zset (lqC A t d s) 64))), none, none] [] σ Q) : ∀ (n k : Nat), k + n = d → zE true (dp + 3) kc ks M_X7_place 58 [some (.inr (.inr (11, 0))), some (.inl (nI d)), some (.inr (.inl (zset (lfB A t d s k) 64))), none, some (.inl (nI k))] [] σ Q := by
  intro n
  induction n with
  | zero =>
    intro k hk
    have : k = d := by omega
    subst this
    refine T_X7_pl2_58 ⟨fun _ => ?_, fun g => absurd (Int32.le_refl _) g⟩
    rw [zset_cong (q := lqC A t k s) (fun c hc => lfB_d A t k s c)]
    exact hnext
  | succ n ih =>
    intro k hk
    obtain ⟨a1, a2, a3⟩ := hat k (by omega)
    refine T_X7_pl2_58 ⟨fun g => ?_, fun _ => ?_⟩
    · rw [nI_leI (by omega) (by omega)] at g
      omega
    · rw [ix9, nI_clamp (show 9 * k + d < 2 ^ 31 by omega), nI_clamp (show k < 2 ^ 31 by omega), a1, nI_clamp (show s k < 2 ^ 31 by omega), ← nI_succ]
      refine ⟨nI_in (by omega) (by omega), nI_in (by omega) (by omega), nI_in (by omega) (by omega), ?_⟩
      have e : zset (lfB A t d s k) 64 &&& zgl σ 44 (9 * k + d) (s k) = zset (lfB A t d s (k + 1)) 64 := zset_eq (fun c hc => by
        rw [tb_and, tb_set hc]
        have e1 : lfB A t d s (k + 1) c = (lfB A t d s k c && (prK A t k d (s k) c && opB A (s k) c)) := by
          unfold lfB opB
          show (_ && _ && !(aAny _ k || (!prK A t k d (s k) c || (aAl A && decide (s k = c))))) = _
          generalize aAny (fun i => !prK A t i d (s i) c || (aAl A && decide (s i = c))) k = x1
          generalize prK A t k d (s k) c = x2
          generalize (aAl A && decide (s k = c)) = x3
          generalize (gB A (mO A) (mbr A t d) c && !(aAl A && shut A t c)) = x4
          cases x1 <;> cases x2 <;> cases x3 <;> cases x4 <;> rfl
        rw [e1]
        by_cases z : lfB A t d s k c = true
        · have zg : gB A (mO A) (mbr A t d) c = true := by
            unfold lfB at z
            rw [Bool.and_eq_true, Bool.and_eq_true] at z
            exact z.1.1
          rw [hP.2.2 k d (by omega) hd (s k) c a2 hc a3 (gB_cell hW zg)]
          rfl
        · rw [Bool.not_eq_true] at z
          rw [z]
          rfl)
      rw [e]
      exact ih (k + 1) (by omega)
theorem evs_ge {t r d : Nat} {s : Nat → Nat} : ∀ (n k : Nat), k + n = 64 → fb_ct (gB A (mO A) (mbr A t d)) 64 - fb_ct (gB A (mO A) (mbr A t d)) k ≤ (evs A t (r + 1) d s n).length
  | 0, k, h => by
    have : k = 64 := by omega
    subst this
    rw [Nat.sub_self]
    exact Nat.zero_le _
  | n + 1, k, h => by
    have ih := evs_ge (t := t) (r := r) (d := d) (s := s) n (k + 1) (by omega)
    have e := fb_ct_succ (gB A (mO A) (mbr A t d)) k
    rw [evs_s, List.length_append, show 63 - n = k by omega]
    by_cases z : gB A (mO A) (mbr A t d) k = true
    · rw [if_pos z] at e
      rw [if_pos z]
      have : 1 ≤ (if stB A t (zup s d k) d = true then (if r = 0 then [some (zup s d k)] else none :: evs A t r (d + 1) (zup s d k) 64) else [none]).length := by
        split
        · split <;> simp
        · simp
      omega
    · rw [if_neg z] at e
      omega
/-- what a search from a level on comes to -/
def zPe (A : zAb) (t : Nat) (σ' : zSt) (TT : Nat) (FT : List (Nat → Nat)) : Prop := (TT ≤ 60000 → zgi σ' 11 0 6 = 0 ∧ zgi σ' 11 0 7 = nI TT ∧ zFo A t σ' FT) ∧ (60000 < TT → zgi σ' 11 0 6 = 1 ∧ zgi σ' 11 0 7 = 60000)
/-- what is to be shown of a level -/
def zPS (A : zAb) (t r d : Nat) : Prop := ∀ (dp : Nat) (σ : zSt) (s : Nat → Nat) (F : List (Nat → Nat)) (T P : Nat) (K : zSt → Prop), zPx A t σ → zgi σ 11 0 6 = 0 → zgi σ 11 0 7 = nI T → T ≤ 60000 → zAt A t σ s d → zFo A t σ F → F.length + P ≤ T → (∀ σ', zOnly (zPl d) σ σ' → σ'.2.2.2 = σ.2.2.2 → zPe A t σ' (T + (evs A t (r + 1) d s 64).length) (F ++ (evs A t (r + 1) d s 64).filterMap id) → K σ') → zCv true (dp + r + 3) 0 0 M_X7_place [.inr (.inr (11, 0)), .inl (nI d)] σ K
theorem L_X7_place93 (hW : zWf A) {t r d : Nat} (h9 : gn A t ≤ 9) (hd : d + (r + 1) = gn A t) (hsub : 0 < r → zPS A t (r - 1) (d + 1)) {s : Nat → Nat} {TT P : Nat} {FT : List (Nat → Nat)} {σ0 : zSt} (hP : zPx A t σ0) (hat : zAt A t σ0 s d) (hQ : ∀ σ', zOnly (zPl d) σ0 σ' → σ'.2.2.2 = σ0.2.2.2 → zPe A t σ' TT FT → Q none σ') : ∀ (n k : Nat), k + n = 64 → ∀ (σ : zSt) (F : List (Nat → Nat)) (τ : Nat), zOnly (zPl d) σ0 σ → σ.2.2.2 = σ0.2.2.2 → zgi σ 11 0 6 = 0 → zgi σ 11 0 7 = nI τ → τ ≤ 60000 → zFo A t σ F → F.length + (fb_ct (gB A (mO A) (mbr A t d)) 64 - fb_ct (gB A (mO A) (mbr A t d)) k) + P ≤ τ → τ + (evs A t (r + 1) d s n).length = TT + (fb_ct (gB A (mO A) (mbr A t d)) 64 - fb_ct (gB A (mO A) (mbr A t d)) k) → F ++ (evs A t (r + 1) d s n).filterMap id = FT → zE true (dp + r + 3) kc ks M_X7_place 93 [some (.inr (.inr (11, 0))), some (.inl (nI d)), some (.inr (.inl (zab (lqC A t d s) k))), none, none] [] σ Q := by
  intro n
  induction n with
  | zero =>
    intro k hk σ F τ ho hh h6 h7 hτ hF hl he hf
    have : k = 64 := by omega
    subst this
    rw [evs_0] at he hf
    rw [Nat.sub_self] at he
    refine T_X7_pl2_93 ⟨fun _ => hQ σ ho hh ⟨fun hT => ⟨h6, ?_, ?_⟩, fun hT => ?_⟩, fun g => absurd (Or.inl (by rw [lg_cmp_0, zab_64])) g⟩
    · rw [h7]
      congr 1
    · rw [← hf]
      simpa using hF
    · simp at he
      omega
  | succ n ih =>
    intro k hk σ F τ ho hh h6 h7 hτ hF hl he hf
    have hk64 : k < 64 := by omega
    have eC := fb_ct_succ (gB A (mO A) (mbr A t d)) k
    have eM := fb_ct_mono (gB A (mO A) (mbr A t d)) (show k + 1 ≤ 64 by omega)
    have eG := evs_ge (A := A) (t := t) (r := r) (d := d) (s := s) n (k + 1) (by omega)
    rw [evs_s, show 63 - n = k by omega] at he hf
    by_cases zg : gB A (mO A) (mbr A t d) k = true
    · rw [if_pos zg] at eC he hf
      by_cases zs : stB A t (zup s d k) d = true
      · rw [if_pos zs] at he hf
        have zq : lqC A t d s k = true := by unfold lqC; rw [zg, zs]; rfl
        obtain ⟨l1, l2, l3⟩ := zab_low hk64 zq
        have o1 : zOnly (zPl d) σ0 (zsi σ 45 0 d (nI k)) := ho.tr (zOnly.si (Or.inl ⟨rfl, Nat.le_refl d⟩))
        have oz : zOnly (fun c j e => c = 45 ∧ j = 0 ∧ e = d) σ (zsi σ 45 0 d (nI k)) := zOnly.si ⟨rfl, rfl, rfl⟩
        have hat1 : zAt A t (zsi σ 45 0 d (nI k)) (zup s d k) (d + 1) := fun i hi => by
          rw [zgi_si]
          by_cases e : i = d
          · subst e
            have e1 : zup s i k i = k := if_pos rfl
            rw [if_pos ⟨rfl, rfl, rfl⟩, e1]
            exact ⟨rfl, hk64, zg⟩
          · have e1 : zup s d k i = s i := if_neg e
            rw [if_neg (fun q => e q.2.2), e1, ho.i 45 0 i (by unfold zPl; omega)]
            exact hat i (by omega)
        have hF1 : zFo A t (zsi σ 45 0 d (nI k)) F := hF.only oz ⟨by omega, fun e => by omega⟩
        refine T_X7_pl2_93 ⟨fun g => ?_, fun _ => ⟨nI_in (by omega) (by omega), fun g => ?_, fun g => ?_⟩⟩
        · rcases g with g | g
          · exact absurd g l2
          · exact absurd h6 g
        · rw [ho.i 11 0 4 (by unfold zPl; omega), hP.1.1, ← nI_succ, nI_leI (by omega) (by omega)] at g
          have hr : r = 0 := by omega
          rw [if_pos hr] at he hf
          rw [l1, nI_clamp (show d < 2 ^ 31 by omega)]
          rw [List.length_append] at he
          have he' : τ + (1 + (evs A t (r + 1) d s n).length) = TT + (fb_ct (gB A (mO A) (mbr A t d)) 64 - fb_ct (gB A (mO A) (mbr A t d)) k) := he
          have h4 : zgi (zsi σ 45 0 d (nI k)) 11 0 4 = nI (gn A t) := by
            rw [o1.i 11 0 4 (by unfold zPl; omega)]
            exact hP.1.1
          refine S_X7_record h9 h4 (fun i hi => ⟨(hat1 i (by omega)).1, (hat1 i (by omega)).2.1⟩) hF1 (by omega) (fun σ2 o2 h2 f2 => T_X7_pl2_140 ?_)
          rw [l3]
          refine ih (k + 1) (by omega) σ2 (F ++ [zup s d k]) τ (o1.tr (o2.mono (fun c j e q => by unfold zQrc at q; unfold zPl; omega))) (h2.trans hh) ?_ ?_ hτ f2 ?_ (by omega) ?_
          · rw [o2.i 11 0 6 (by omega)]; exact h6
          · rw [o2.i 11 0 7 (by omega)]; exact h7
          · rw [List.length_append]
            show F.length + 1 + _ + P ≤ τ
            omega
          · rw [← hf, List.filterMap_append, List.append_assoc]
            rfl
        · rw [ho.i 11 0 4 (by unfold zPl; omega), hP.1.1, ← nI_succ, nI_leI (by omega) (by omega)] at g
          have hr : ¬ r = 0 := by omega
          rw [if_neg hr] at he hf
          rw [l1, nI_clamp (show d < 2 ^ 31 by omega), ← nI_succ]
          obtain ⟨r', rfl⟩ : ∃ r', r = r' + 1 := ⟨r - 1, by omega⟩
          rw [List.length_append, List.length_cons] at he
          have sub := hsub (by omega) dp (zsi σ 45 0 d (nI k)) (zup s d k) F τ (P + (fb_ct (gB A (mO A) (mbr A t d)) 64 - fb_ct (gB A (mO A) (mbr A t d)) (k + 1))) (fun s6 => zE true (dp + (r' + 1) + 3) kc ks M_X7_place 140 [some (.inr (.inr (11, 0))), some (.inl (nI d)), some (.inr (.inl (zab (lqC A t d s) k))), none, none] [] s6 Q) (hP.only o1 ⟨by unfold zPl; omega, by unfold zPl; omega, fun j e => ⟨by unfold zPl; omega, by unfold zPl; omega, by unfold zPl; omega⟩⟩) h6 h7 hτ hat1 hF1 (by omega) (fun σ2 o2 h2 e2 => T_X7_pl2_140 ?_)
          · exact sub
          · rw [l3]
            have oo : zOnly (zPl d) σ0 σ2 := o1.tr (o2.mono (fun c j e q => by unfold zPl at q ⊢; omega))
            rw [show r' + 1 - 1 = r' by omega] at e2
            have ef : (evs A t (r' + 1) (d + 1) (zup s d k) 64).filterMap id = ((none :: evs A t (r' + 1) (d + 1) (zup s d k) 64) : zEv).filterMap id := rfl
            by_cases hc : τ + (evs A t (r' + 1) (d + 1) (zup s d k) 64).length ≤ 60000
            · obtain ⟨u1, u2, u3⟩ := e2.1 hc
              have hle : ((evs A t (r' + 1) (d + 1) (zup s d k) 64).filterMap id).length ≤ (evs A t (r' + 1) (d + 1) (zup s d k) 64).length := List.length_filterMap_le _ _
              refine ih (k + 1) (by omega) σ2 _ _ oo (h2.trans hh) u1 u2 hc u3 ?_ (by omega) ?_
              · rw [List.length_append]
                omega
              · rw [← hf, List.filterMap_append, List.append_assoc, ← ef]
            · obtain ⟨u1, u2⟩ := e2.2 (by omega)
              refine T_X7_pl2_93 ⟨fun _ => hQ σ2 oo (h2.trans hh) ⟨fun hT => ?_, fun _ => ⟨u1, u2⟩⟩, fun g => absurd (Or.inr (by rw [u1]; decide)) g⟩
              omega
      · rw [if_neg zs] at he hf
        have zq : lqC A t d s k = false := by unfold lqC; rw [Bool.not_eq_true] at zs; rw [zs, Bool.and_false]
        rw [List.length_append] at he
        have he' : τ + (1 + (evs A t (r + 1) d s n).length) = TT + (fb_ct (gB A (mO A) (mbr A t d)) 64 - fb_ct (gB A (mO A) (mbr A t d)) k) := he
        rw [zab_skip zq]
        exact ih (k + 1) (by omega) σ F τ ho hh h6 h7 hτ hF (by omega) (by omega) hf
    · rw [if_neg zg] at eC he hf
      have zq : lqC A t d s k = false := by unfold lqC; rw [Bool.not_eq_true] at zg; rw [zg]; rfl
      rw [List.nil_append] at he hf
      rw [zab_skip zq]
      exact ih (k + 1) (by omega) σ F τ ho hh h6 h7 hτ hF (by omega) (by omega) hf
theorem S_X7_place_st (hW : zWf A) {t r d : Nat} (h9 : gn A t ≤ 9) (hd : d + (r + 1) = gn A t) (hsub : 0 < r → zPS A t (r - 1) (d + 1)) : zPS A t r d := by
  intro dp σ s F T P K hP h6 h7 hT hat hF hl hK
  have hN := fb_ct_le (gB A (mO A) (mbr A t d)) 64
  have eG := evs_ge (A := A) (t := t) (r := r) (d := d) (s := s) 64 0 rfl
  have e0 : fb_ct (gB A (mO A) (mbr A t d)) 0 = 0 := rfl
  have v9 : vp_in (nI d) 9 := nI_in (by omega) (by omega)
  refine zC_intro pl_X7 (Nat.le_of_ble_eq_true rfl) (T_X7_pl2_0 ?_)
  rw [nI_clamp (show d < 2 ^ 31 by omega), (hP.2.1 d (by omega)).2, h7, zbc64_ct, fb_ct_cong (q := gB A (mO A) (mbr A t d)) (fun i hi => tb_set hi), nI_add, zgi_si, if_pos ⟨rfl, rfl, rfl⟩, hP.1.2, show (60000 : Int32) = nI 60000 from rfl, nI_leI (by omega) (by omega)]
  refine ⟨v9, fun g => ⟨v9, ?_⟩, fun g => ⟨rfl, hK _ (((zOnly.si (by unfold zPl; omega)).tr (zOnly.si (by unfold zPl; omega))).tr (zOnly.si (by unfold zPl; omega))) rfl ⟨fun h => by omega, fun h => ⟨by rw [zgi_si, if_pos ⟨rfl, rfl, rfl⟩], by rw [zgi_si, if_neg (by omega), zgi_si, if_pos ⟨rfl, rfl, rfl⟩]; rfl⟩⟩⟩⟩
  have oz : zOnly (fun c j e => c = 11 ∧ j = 0 ∧ e = 7) σ (zsi σ 11 0 7 (nI (T + fb_ct (gB A (mO A) (mbr A t d)) 64))) := zOnly.si ⟨rfl, rfl, rfl⟩
  have hP1 : zPx A t (zsi σ 11 0 7 (nI (T + fb_ct (gB A (mO A) (mbr A t d)) 64))) := hP.only oz ⟨by omega, by omega, fun j e => ⟨by omega, by omega, by omega⟩⟩
  have hat1 : zAt A t (zsi σ 11 0 7 (nI (T + fb_ct (gB A (mO A) (mbr A t d)) 64))) s d := fun i hi => by
    rw [oz.i 45 0 i (by omega)]
    exact hat i hi
  have e : zset (gB A (mO A) (mbr A t d)) 64 &&& (zset (fun c => aAl A && shut A t c) 64 ^^^ (-1)) = zset (lfB A t d s 0) 64 := zset_eq (fun c hc => by
    rw [tb_and, tb_not _ hc, tb_set hc, tb_set hc]
    unfold lfB
    show _ = (_ && _ && !false)
    rw [Bool.not_false, Bool.and_true])
  rw [e]
  refine L_X7_place58 hW h9 (by omega) hP1 hat1 ?_ d 0 (by omega)
  rw [zab_0]
  refine L_X7_place93 (P := P) hW h9 hd hsub hP1 hat1 (fun σ' o h e2 => ⟨rfl, hK σ' ((oz.mono (fun c j k q => by unfold zPl; omega)).tr o) h e2⟩) 64 0 rfl _ F (T + fb_ct (gB A (mO A) (mbr A t d)) 64) zOnly.rf rfl h6 (by rw [zgi_si, if_pos ⟨rfl, rfl, rfl⟩]) g (hF.only oz ⟨by omega, fun k => by omega⟩) (by omega) (by omega) rfl
theorem S_X7_place (hW : zWf A) {t : Nat} (h9 : gn A t ≤ 9) : ∀ (r d : Nat), d + (r + 1) = gn A t → zPS A t r d
  | 0, d, hd => S_X7_place_st hW h9 hd (fun h => absurd h (Nat.lt_irrefl 0))
  | r + 1, d, hd => S_X7_place_st hW h9 hd (fun _ => S_X7_place hW h9 r (d + 1) (by omega))
/-- what is kept of the group looked at -/
def zPC (A : zAb) (t : Nat) (σ : zSt) : Prop := (zgi σ 11 0 3 = yset (grB A t) 32 ∧ zgi σ 11 0 4 = nI (gn A t)) ∧ (9 < gn A t → zgi σ 11 0 6 = 1 ∧ zgi σ 11 0 7 = 0) ∧ (gn A t ≤ 9 → (∀ i, i < gn A t → zgi σ 40 0 i = nI (mbr A t i)) ∧ (60000 < (evT A t).length → zgi σ 11 0 6 = 1 ∧ zgi σ 11 0 7 = 60000) ∧ ((evT A t).length ≤ 60000 → zgi σ 11 0 6 = 0 ∧ zgi σ 11 0 7 = nI (evT A t).length ∧ zFo A t σ (plF A t) ∧ (¬ zgi σ 11 0 14 = 0 → ∀ i, i < gn A t → ∀ c, c < 64 → zgi σ 47 i c = nI (cnO (plF A t) i c)) ∧ (¬ zgi σ 11 0 16 = 0 → zgi σ 48 0 0 = bwV A t 0 ∧ zgi σ 48 0 1 = bwV A t 1 ∧ zgi σ 48 0 2 = bwV A t 2)))
def zCP (A : zAb) (σ : zSt) : Prop := zgi σ 11 0 3 = 0 ∨ ∃ t, t < aN A ∧ zPC A t σ
/-- the group is all that placings know of a thing -/
theorem gf_gn {t u : Nat} (h : grB A t = grB A u) : gn A t = gn A u := by unfold gn; rw [h]
theorem gf_mbr {t u : Nat} (h : grB A t = grB A u) : mbr A t = mbr A u := by funext i; unfold mbr; rw [h]
theorem gf_shut {t u : Nat} (h : grB A t = grB A u) : shut A t = shut A u := by funext c; unfold shut; rw [h]
theorem gf_prK {t u : Nat} (h : grB A t = grB A u) : prK A t = prK A u := by funext i j c e; unfold prK; rw [gf_mbr h]
theorem gf_stB {t u : Nat} (h : grB A t = grB A u) : stB A t = stB A u := by funext s d; unfold stB; rw [gf_shut h, gf_prK h]
theorem gf_evs {t u : Nat} (h : grB A t = grB A u) : ∀ r, evs A t r = evs A u r
  | 0 => by funext d s k; rfl
  | r + 1 => by
    funext d s k
    unfold evs
    rw [gf_mbr h, gf_stB h, gf_evs h r]
theorem gf_evT {t u : Nat} (h : grB A t = grB A u) : evT A t = evT A u := by unfold evT; rw [gf_gn h, gf_evs h]
theorem gf_plF {t u : Nat} (h : grB A t = grB A u) : plF A t = plF A u := by unfold plF; rw [gf_evT h]
theorem gf_btV {t u : Nat} (h : grB A t = grB A u) : btV A t = btV A u := by funext k; unfold btV; rw [gf_plF h]
theorem gf_bpJ {t u : Nat} (h : grB A t = grB A u) : ∀ n i b, bpJ A t i n b = bpJ A u i n b
  | 0, i, b => rfl
  | n + 1, i, b => by unfold bpJ; rw [gf_gn h, gf_btV h, gf_bpJ h n]
theorem gf_bpI {t u : Nat} (h : grB A t = grB A u) : ∀ n b, bpI A t n b = bpI A u n b
  | 0, b => rfl
  | n + 1, b => by unfold bpI; rw [gf_gn h, gf_bpJ h, gf_bpI h n]
theorem gf_bwV {t u : Nat} (h : grB A t = grB A u) (e : Int32) : bwV A t e = bwV A u e := by unfold bwV; rw [gf_gn h, gf_bpI h, gf_mbr h, gf_btV h]
theorem zPC.gr {t u : Nat} (h : zPC A t σ) (hg : gr A t u) : zPC A u σ := by
  have e : grB A t = grB A u := funext (fun v => gr_eq hg v)
  unfold zPC zFo at h ⊢
  rw [← e, ← gf_gn e, ← gf_mbr e, ← gf_evT e, ← gf_plF e, ← gf_bwV e, ← gf_bwV e, ← gf_bwV e]
  exact h
abbrev zQlk (c _j k : Nat) : Prop := c = 30 ∨ (40 ≤ c ∧ c ≤ 45) ∨ (c = 11 ∧ (k = 3 ∨ k = 4 ∨ k = 6 ∨ k = 7 ∨ k = 8 ∨ k = 12 ∨ k = 14 ∨ k = 16))
theorem gn_32 (hW : zWf A) {t : Nat} (ht : t < aN A) : fb_ct (grB A t) 32 = gn A t := by
  have hN : aN A ≤ 24 := hW.1.2.2.2.2.1
  have := ct_cut (p := grB A t) (a := aN A) (n := 32) (by omega)
  rw [fb_ct_cong (q := grB A t) (fun k hk => by
    by_cases z : grB A t k = true
    · rw [z, decide_eq_true (gr_lt hW ht (grB_iff.mp z))]; rfl
    · rw [Bool.not_eq_true] at z; rw [z, Bool.and_false])] at this
  exact this
end zPu
section zPv
variable {d kc ks : Nat} {σ : zSt} {A : zAb} {Q : Option zV → zSt → Prop}
theorem S_X7_look {K : zSt → Prop} (hW : zWf A) (hR : zRD A σ 0) (hG : zGr σ) (hY : zRy A σ) (hC : zCP A σ) {t : Nat} (ht : t < aN A) (hK : ∀ σ', zOnly zQlk σ σ' → σ'.2.2.2 = σ.2.2.2 → zPC A t σ' → K σ') : zCv true (d + 13) 0 0 M_X7_look [.inr (.inr (11, 0)), .inl (nI t)] σ K := by
  have hN : aN A ≤ 24 := hW.1.2.2.2.2.1
  have gl := gn_le A t
  refine zC_intro pl_X7 (Nat.le_of_ble_eq_true rfl) (T_X7_look_0 ⟨fun g => S_X1_groupOf hW hR ht (fun σ1 o1 h1 _ x6 hx6 => ?_), fun g => ⟨rfl, hK σ zOnly.rf rfl ?_⟩⟩)
  · have e4 : zbc32 (yset (grB A t) 32) = nI (gn A t) := by rw [zbc32_ct, fb_ct_cong (q := grB A t) (fun i hi => bt_set hi), gn_32 hW ht]
    have c9 : (zgi (zsi (zsi σ1 11 0 3 (yset (grB A t) 32)) 11 0 4 (zbc32 (yset (grB A t) 32))) 11 0 4 ≤ 9) ↔ gn A t ≤ 9 := by
      rw [zgi_si, if_pos ⟨rfl, rfl, rfl⟩, e4]
      exact nI_leI (b := 9) (by omega) (by omega)
    rw [e4]
    have o2 : zOnly zQlk σ1 (zsi (zsi (zsi (zsi (zsi (zsi (zsi σ1 11 0 3 (yset (grB A t) 32)) 11 0 4 (nI (gn A t))) 11 0 6 x6) 11 0 7 0) 11 0 8 0) 11 0 14 0) 11 0 16 0) := ((((((zOnly.si (by unfold zQlk; omega)).tr (zOnly.si (by unfold zQlk; omega))).tr (zOnly.si (by unfold zQlk; omega))).tr (zOnly.si (by unfold zQlk; omega))).tr (zOnly.si (by unfold zQlk; omega))).tr (zOnly.si (by unfold zQlk; omega))).tr (zOnly.si (by unfold zQlk; omega))
    have v3 : zgi (zsi (zsi (zsi (zsi (zsi (zsi (zsi σ1 11 0 3 (yset (grB A t) 32)) 11 0 4 (nI (gn A t))) 11 0 6 x6) 11 0 7 0) 11 0 8 0) 11 0 14 0) 11 0 16 0) 11 0 3 = yset (grB A t) 32 := by simp [zgi_si]
    have v4 : zgi (zsi (zsi (zsi (zsi (zsi (zsi (zsi σ1 11 0 3 (yset (grB A t) 32)) 11 0 4 (nI (gn A t))) 11 0 6 x6) 11 0 7 0) 11 0 8 0) 11 0 14 0) 11 0 16 0) 11 0 4 = nI (gn A t) := by simp [zgi_si]
    have v6 : zgi (zsi (zsi (zsi (zsi (zsi (zsi (zsi σ1 11 0 3 (yset (grB A t) 32)) 11 0 4 (nI (gn A t))) 11 0 6 x6) 11 0 7 0) 11 0 8 0) 11 0 14 0) 11 0 16 0) 11 0 6 = x6 := by simp [zgi_si]
    have v7 : zgi (zsi (zsi (zsi (zsi (zsi (zsi (zsi σ1 11 0 3 (yset (grB A t) 32)) 11 0 4 (nI (gn A t))) 11 0 6 x6) 11 0 7 0) 11 0 8 0) 11 0 14 0) 11 0 16 0) 11 0 7 = 0 := by simp [zgi_si]
    have v8 : zgi (zsi (zsi (zsi (zsi (zsi (zsi (zsi σ1 11 0 3 (yset (grB A t) 32)) 11 0 4 (nI (gn A t))) 11 0 6 x6) 11 0 7 0) 11 0 8 0) 11 0 14 0) 11 0 16 0) 11 0 8 = 0 := by simp [zgi_si]
    have v14 : zgi (zsi (zsi (zsi (zsi (zsi (zsi (zsi σ1 11 0 3 (yset (grB A t) 32)) 11 0 4 (nI (gn A t))) 11 0 6 x6) 11 0 7 0) 11 0 8 0) 11 0 14 0) 11 0 16 0) 11 0 14 = 0 := by simp [zgi_si]
    have v16 : zgi (zsi (zsi (zsi (zsi (zsi (zsi (zsi σ1 11 0 3 (yset (grB A t) 32)) 11 0 4 (nI (gn A t))) 11 0 6 x6) 11 0 7 0) 11 0 8 0) 11 0 14 0) 11 0 16 0) 11 0 16 = 0 := by simp [zgi_si]
    have hh2 : (zsi (zsi (zsi (zsi (zsi (zsi (zsi σ1 11 0 3 (yset (grB A t) 32)) 11 0 4 (nI (gn A t))) 11 0 6 x6) 11 0 7 0) 11 0 8 0) 11 0 14 0) 11 0 16 0).2.2.2 = σ.2.2.2 := h1
    generalize zsi (zsi (zsi (zsi (zsi (zsi (zsi σ1 11 0 3 (yset (grB A t) 32)) 11 0 4 (nI (gn A t))) 11 0 6 x6) 11 0 7 0) 11 0 8 0) 11 0 14 0) 11 0 16 0 = τ at o2 v3 v4 v6 v7 v8 v14 v16 hh2 ⊢
    have oa : zOnly zQlk σ τ := (o1.mono (fun c j k h => Or.inl h.1)).tr o2
    have hRt : zRD A τ 0 := hR.only oa hh2 (fun c j k h => by unfold zBD at h; unfold zQlk; omega)
    refine ⟨fun g2 => ⟨rfl, hK τ oa hh2 ?_⟩, fun g2 => ?_⟩
    · have n9 : 9 < gn A t := by
        by_cases z : gn A t ≤ 9
        · rw [if_pos (c9.mpr z)] at hx6
          exact absurd hx6 g2
        · omega
      rw [if_neg (fun q => by have := c9.mp q; omega)] at hx6
      exact ⟨⟨v3, v4⟩, fun _ => ⟨by rw [v6, hx6], v7⟩, fun h => by omega⟩
    · have n9 : gn A t ≤ 9 := by
        by_cases z : gn A t ≤ 9
        · exact z
        · rw [if_neg (fun q => z (c9.mp q))] at hx6
          rw [hx6] at g2
          exact absurd g2 (by decide)
      have hp := gn_pos ht
      refine S_X7_prepare hW hRt (hG.only oa (fun j k => by unfold zQlk; omega)) (hY.only oa ⟨fun j k => by unfold zQlk; omega, by unfold zQlk; omega⟩) ht n9 v3 v4 (fun σ2 o3 h3 x3 => ?_)
      have ob : zOnly zQlk σ σ2 := oa.tr (o3.mono (fun c j k h => by unfold zQlk; omega))
      have w6 : zgi σ2 11 0 6 = 0 := by rw [o3.i 11 0 6 (by omega), v6]; exact g2
      have eg : evs A t (gn A t - 1 + 1) 0 (fun _ => 0) 64 = evT A t := by
        unfold evT
        rw [show gn A t - 1 + 1 = gn A t by omega]
      have key : ∀ σ3, zOnly (zPl 0) σ2 σ3 → σ3.2.2.2 = σ2.2.2.2 → zPe A t σ3 (0 + (evs A t (gn A t - 1 + 1) 0 (fun _ => 0) 64).length) ([] ++ (evs A t (gn A t - 1 + 1) 0 (fun _ => 0) 64).filterMap id) → K σ3 := fun σ3 o4 h4 e5 => by
        rw [eg, Nat.zero_add, List.nil_append] at e5
        refine hK σ3 (ob.tr (o4.mono (fun c j k h => by unfold zPl at h; unfold zQlk; omega))) (h4.trans (h3.trans hh2)) ⟨⟨?_, ?_⟩, fun h => by omega, fun _ => ⟨fun i hi => ?_, e5.2, fun hl => ⟨(e5.1 hl).1, (e5.1 hl).2.1, (e5.1 hl).2.2, fun h => absurd ?_ h, fun h => absurd ?_ h⟩⟩⟩
        · rw [o4.i 11 0 3 (by unfold zPl; omega), o3.i 11 0 3 (by omega)]; exact v3
        · rw [o4.i 11 0 4 (by unfold zPl; omega), o3.i 11 0 4 (by omega)]; exact v4
        · rw [o4.i 40 0 i (by unfold zPl; omega)]; exact (x3.2.1 i hi).1
        · rw [o4.i 11 0 14 (by unfold zPl; omega), o3.i 11 0 14 (by omega)]; exact v14
        · rw [o4.i 11 0 16 (by unfold zPl; omega), o3.i 11 0 16 (by omega)]; exact v16
      have pl := S_X7_place hW n9 (gn A t - 1) 0 (by omega) (d + (10 - gn A t)) σ2 (fun _ => 0) [] 0 0 (fun s10 => (none : Option zV) = none ∧ K s10) x3 w6 (by rw [o3.i 11 0 7 (by omega)]; exact v7) (by omega) (fun i hi => absurd hi (Nat.not_lt_zero i)) ⟨by rw [o3.i 11 0 8 (by omega)]; exact v8, fun n s hs => by simp at hs⟩ (Nat.le_refl _) (fun σ3 o4 h4 e4 => ⟨rfl, key σ3 o4 h4 e4⟩)
      rw [show d + (10 - gn A t) + (gn A t - 1) + 3 = d + 12 by omega] at pl
      exact pl
  · rcases hC with z | ⟨u, hu, z⟩
    · exfalso
      have hy := yh_b (show t < 32 by omega) (fun _ => false)
      rw [show yset (fun _ => false) 32 = 0 from yset_0.mpr (fun i hi => rfl)] at hy
      apply g
      rw [z, hy]
      rfl
    · rw [z.1.1, yh_b (by omega), zb_0, Decidable.not_not, grB_iff] at g
      exact z.gr g
end zPv
