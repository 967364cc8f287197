/-! the search itself (reference) -/
theorem evs_skip {A : zAb} {t r d : Nat} {s : Nat → Nat} {k : Nat} (h : ¬ gB A (mO A) (mbr A t d) (63 - k) = true) : evs A t (r + 1) d s (k + 1) = evs A t (r + 1) d s k := by
  rw [evs_s, if_neg h]
  rfl
section zMq
variable {d kc ks : Nat} {σ : zSt} {A : zAb} {Q : Option zV → zSt → Prop}
abbrev zSy (c _j k : Nat) : Prop := c = 82 ∨ c = 84 ∨ c = 85 ∨ c = 86 ∨ (c = 54 ∧ (k = 41 ∨ k = 43 ∨ k = 52))
/-- the search at work: D tried, the rest to be tried -/
def zSw (A : zAb) (σ : zSt) (t : Nat) (w a b : Int) (c e : Nat) (D R : zEv) : Prop := D ++ R = evT A t ∧ D.length ≤ 60000 ∧ zgi σ 54 0 41 = nI D.length ∧ zTa A σ t w (D.filterMap id) ∧ zgi σ 54 0 52 = zb (cnP (D.filterMap id) a b c e = true)
theorem zSw.only {σ σ' : zSt} {t : Nat} {w a b : Int} {c e : Nat} {D R : zEv} {M : Nat → Nat → Nat → Prop} (h : zSw A σ t w a b c e D R) (ho : zOnly M σ σ') (hm : ∀ x k, (x = 84 ∨ x = 85 ∨ x = 86 ∨ (x = 54 ∧ (k = 41 ∨ k = 43 ∨ k = 52))) → ¬ M x 0 k) : zSw A σ' t w a b c e D R := by
  obtain ⟨h1, h2, h3, ⟨h4, h5, h6, h7⟩, h8⟩ := h
  refine ⟨h1, h2, ?_, ⟨?_, fun i hi x hx => ?_, fun i j h1 h2 f hf => ?_, fun q s hs i hi => ?_⟩, ?_⟩
  · rw [ho.i 54 0 41 (hm _ _ (by omega))]; exact h3
  · rw [ho.i 54 0 43 (hm _ _ (by omega))]; exact h4
  · rw [ho.i 84 0 _ (hm _ _ (by omega))]; exact h5 i hi x hx
  · rw [ho.i 85 0 _ (hm _ _ (by omega))]; exact h6 i j h1 h2 f hf
  · rw [ho.i 86 0 _ (hm _ _ (by omega))]; exact h7 q s hs i hi
  · rw [ho.i 54 0 52 (hm _ _ (by omega))]; exact h8
theorem L_X12_srch147 (hW : zWf A) {σ0 : zSt} (hR : zRM A σ0) {t : Nat} (ht : t < aN A) (h9 : gn A t ≤ 9) (hG : zGm A σ0 t) (hPr : zPr A σ0 t) (hX : zLf A σ0 79 (gB A (mO A))) {w a b : Int} {c e : Nat} (hP : zPm A σ0 t w a b c e) (hQ1 : ∀ σ', zOnly zSy σ0 σ' → (evT A t).length ≤ 60000 → zgi σ' 54 0 41 = nI (evT A t).length → zTa A σ' t w (plF A t) → zgi σ' 54 0 52 = zb (cnP (plF A t) a b c e = true) → Q (some (.inl 1)) σ') (hQ0 : ∀ σ', zOnly zSy σ0 σ' → 60000 < (evT A t).length → zgi σ' 54 0 41 = 60000 → Q (some (.inl 0)) σ') : ∀ (N n : Nat) (σ : zSt) (s : Nat → Nat) (k : Nat) (D R : zEv), 10 * R.length + n ≤ N → n ≤ gn A t → k ≤ 64 → zOnly zSy σ0 σ → zSw A σ t w a b c e D R → zSs σ s (n - 1) → (0 < n → zgi σ 82 0 (n - 1) = iI (63 - (k : Int)) ∧ R = evs A t (gn A t - (n - 1)) (n - 1) (rst s (n - 1)) k ++ evU A t (n - 1) s) → (n = 0 → R = []) → zE true (d + 9) kc ks M_X12_search 147 [some (.inr (.inr (54, 0))), none, none, some (.inl (iI ((n : Int) - 1))), none] [] σ Q := by
  have hN : aN A ≤ 24 := hW.1.2.2.2.2.1
  have gl := gn_le A t
  intro N
  induction N with
  | zero =>
    intro n σ s k D R hN0 hn hk ho hw hS hr hr0
    have : n = 0 := by omega
    subst this
    obtain ⟨h1, h2, h3, h4, h5⟩ := hw
    rw [hr0 rfl, List.append_nil] at h1
    refine T_X12_search_147 ⟨fun _ => ?_, fun g => absurd (show iI (((0 : Nat) : Int) - 1) < 0 by decide) g⟩
    rw [h1] at h2 h3 h4 h5
    exact hQ1 σ ho h2 h3 h4 h5
  | succ N ih =>
    intro n σ s k D R hN0 hn hk ho hw hS hr hr0
    cases n with
    | zero =>
      obtain ⟨h1, h2, h3, h4, h5⟩ := hw
      rw [hr0 rfl, List.append_nil] at h1
      refine T_X12_search_147 ⟨fun _ => ?_, fun g => absurd (show iI (((0 : Nat) : Int) - 1) < 0 by decide) g⟩
      rw [h1] at h2 h3 h4 h5
      exact hQ1 σ ho h2 h3 h4 h5
    | succ dd =>
      obtain ⟨r1, r2⟩ := hr (Nat.succ_pos dd)
      rw [Nat.add_sub_cancel] at r1 r2 hS
      have edd : iI (((dd + 1 : Nat) : Int) - 1) = nI dd := by
        rw [show (((dd + 1 : Nat) : Int) - 1) = (dd : Int) by omega, iI_nat]
      rw [edd]
      have vd : vp_in (nI dd) 24 := nI_in (by omega) (by omega)
      have bd := (mbr_ok (A := A) (t := t) (show dd < gn A t by omega)).1
      obtain ⟨rr, err⟩ : ∃ rr, gn A t - dd = rr + 1 := ⟨gn A t - dd - 1, by omega⟩
      -- the next cell of this member
      have find : ∀ (k' : Nat), k' ≤ 64 → R = evs A t (gn A t - dd) dd (rst s dd) k' ++ evU A t dd s → zE true (d + 9) kc ks M_X12_search 161 [some (.inr (.inr (54, 0))), none, none, some (.inl (nI dd)), some (.inl (nI (64 - k')))] [] σ Q := by
        intro k'
        induction k' with
        | zero =>
          intro _ hR0
          rw [evs_0, List.nil_append] at hR0
          have c64 : (64 : Int32) ≤ nI (64 - 0) := by decide
          refine T_X12_search_161 ⟨fun g => absurd c64 g, fun g => absurd c64 g, fun _ => T_X12_search_193 ⟨vd, fun g => absurd (show nI (64 - 0) = 64 by decide) g, fun _ => ?_⟩, fun g => absurd (Or.inl c64) g⟩
          rw [nI_clamp (show dd < 2 ^ 31 by omega)]
          have em : nI dd + (-1) = iI ((dd : Int) - 1) := by
            rw [← iI_nat, show (-1 : Int32) = iI (-1) from rfl, iI_add]
            rfl
          rw [em]
          have o2 : zOnly zSy σ (zsi σ 82 0 dd (nI (64 - 0))) := zOnly.si (Or.inl rfl)
          have hw2 := hw.only (σ' := zsi σ 82 0 dd (nI (64 - 0))) (zOnly.si (m := fun c _ _ => c = 82) rfl) (fun x k h => by omega)
          cases dd with
          | zero =>
            refine ih 0 _ s 64 D R (by omega) (by omega) (by omega) (ho.tr o2) hw2 (fun i hi => absurd hi (Nat.not_lt_zero i)) (fun h => absurd h (Nat.lt_irrefl 0)) (fun _ => hR0)
          | succ dp =>
            have sp := hS dp (by omega)
            refine ih (dp + 1) _ s (63 - s dp) D R (by omega) (by omega) (by omega) (ho.tr o2) hw2 (fun i hi => ?_) (fun _ => ⟨?_, ?_⟩) (fun h => by omega)
            · rw [Nat.add_sub_cancel] at hi
              rw [zgi_si, if_neg (by omega)]
              exact hS i (by omega)
            · rw [Nat.add_sub_cancel, zgi_si, if_neg (by omega), sp.1, ← iI_nat]
              congr 1
              omega
            · rw [Nat.add_sub_cancel]
              exact hR0
        | succ k' ihk =>
          intro hk64 hR0
          have e63 : 64 - (k' + 1) = 63 - k' := by omega
          have c64 : ¬ (64 : Int32) ≤ nI (64 - (k' + 1)) := fun g => by
            rw [show (64 : Int32) = nI 64 from rfl, nI_leI (by omega) (by omega)] at g
            omega
          have o81 : zgi σ 81 0 dd = nI (mbr A t dd) := by rw [ho.i 81 0 dd (by unfold zSy; omega)]; exact hG.2 dd (by omega)
          have o79 : zgl σ 79 0 (mbr A t dd) = zset (gB A (mO A) (mbr A t dd)) 64 := by rw [ho.l 79 0 _ (by unfold zSy; omega)]; exact hX _ bd
          refine T_X12_search_161 ?_
          rw [nI_clamp (show dd < 2 ^ 31 by omega), o81, nI_clamp (show mbr A t dd < 2 ^ 31 by omega), o79, zl_b1 (show 64 - (k' + 1) < 64 by omega), zb_0, Decidable.not_not, e63, ← nI_succ, show 63 - k' + 1 = 64 - k' by omega]
          rw [e63] at c64
          refine ⟨fun _ => vd, fun _ => nI_in (by omega) (by omega), fun g => ?_, fun g => ?_⟩
          · have gc : gB A (mO A) (mbr A t dd) (63 - k') = true := g.resolve_left c64
            have cne : ¬ nI (63 - k') = 64 := fun q => by
              rw [show (64 : Int32) = nI 64 from rfl, nI_eq (by omega) (by omega)] at q
              omega
            obtain ⟨h1, h2, h3, h4, h5⟩ := hw
            rw [hR0, err, evs_s, if_pos gc] at h1
            have hRl : R.length = ((if stB A t (zup (rst s dd) dd (63 - k')) dd = true then (if rr = 0 then [some (zup (rst s dd) dd (63 - k'))] else none :: evs A t rr (dd + 1) (zup (rst s dd) dd (63 - k')) 64) else [none]) ++ evs A t (rr + 1) dd (rst s dd) k' ++ evU A t dd s).length := by rw [hR0, err, evs_s, if_pos gc]
            refine T_X12_search_193 ⟨vd, fun _ => ⟨fun g2 => ?_, fun g2 => ?_⟩, fun q => absurd q cne⟩
            · have hD : D.length < 60000 := by
                by_cases z : D.length = 60000
                · exact absurd (by rw [h3, z]; rfl) g2
                · omega
              rw [nI_clamp (show dd < 2 ^ 31 by omega), h3, ← nI_succ]
              have o2 : zOnly (fun c _ k => (c = 82 ∧ k = dd) ∨ (c = 54 ∧ k = 41)) σ (zsi (zsi σ 82 0 dd (nI (63 - k'))) 54 0 41 (nI (D.length + 1))) := (zOnly.si (Or.inl ⟨rfl, rfl⟩)).tr (zOnly.si (Or.inr ⟨rfl, rfl⟩))
              have o2' : zOnly zSy σ0 (zsi (zsi σ 82 0 dd (nI (63 - k'))) 54 0 41 (nI (D.length + 1))) := ho.tr (o2.mono (fun c j k h => by unfold zSy; omega))
              have hR1 : zRM A (zsi (zsi σ 82 0 dd (nI (63 - k'))) 54 0 41 (nI (D.length + 1))) := hR.only o2' (fun c k hb => by unfold zBM at hb; unfold zSy; omega)
              have hG1 : zGm A (zsi (zsi σ 82 0 dd (nI (63 - k'))) 54 0 41 (nI (D.length + 1))) t := hG.only o2' ⟨by unfold zSy; omega, fun k => by unfold zSy; omega⟩
              have hP1 : zPr A (zsi (zsi σ 82 0 dd (nI (63 - k'))) 54 0 41 (nI (D.length + 1))) t := hPr.only o2' (fun k => by unfold zSy; omega)
              have hS1 : zSs (zsi (zsi σ 82 0 dd (nI (63 - k'))) 54 0 41 (nI (D.length + 1))) (zup s dd (63 - k')) (dd + 1) := fun i hi => by
                rw [zgi_si, if_neg (by omega), zgi_si]
                unfold zup
                by_cases z : i = dd
                · subst z
                  rw [if_pos ⟨rfl, rfl, rfl⟩, if_pos rfl]
                  exact ⟨rfl, by omega⟩
                · rw [if_neg (fun q => z q.2.2), if_neg z]
                  exact hS i (by omega)
              have e41 : zgi (zsi (zsi σ 82 0 dd (nI (63 - k'))) 54 0 41 (nI (D.length + 1))) 54 0 41 = nI (D.length + 1) := by rw [zgi_si, if_pos ⟨rfl, rfl, rfl⟩]
              have h4' : zTa A (zsi (zsi σ 82 0 dd (nI (63 - k'))) 54 0 41 (nI (D.length + 1))) t w (D.filterMap id) := by
                obtain ⟨t1, t2, t3, t4⟩ := h4
                refine ⟨by rw [o2.i 54 0 43 (by omega)]; exact t1, fun i hi x hx => by rw [o2.i 84 0 _ (by omega)]; exact t2 i hi x hx, fun i j q1 q2 f hf => by rw [o2.i 85 0 _ (by omega)]; exact t3 i j q1 q2 f hf, fun q s' hs' i hi => by rw [o2.i 86 0 _ (by omega)]; exact t4 q s' hs' i hi⟩
              have h5' : zgi (zsi (zsi σ 82 0 dd (nI (63 - k'))) 54 0 41 (nI (D.length + 1))) 54 0 52 = zb (cnP (D.filterMap id) a b c e = true) := by rw [o2.i 54 0 52 (by omega)]; exact h5
              generalize zsi (zsi σ 82 0 dd (nI (63 - k'))) 54 0 41 (nI (D.length + 1)) = τ at o2 o2' hR1 hG1 hP1 hS1 e41 h4' h5' ⊢
              have est : stB A t (zup (rst s dd) dd (63 - k')) dd = stB A t (zup s dd (63 - k')) dd := stB_cong (fun i hi => by
                unfold zup rst
                by_cases z : i = dd
                · rw [if_pos z, if_pos z]
                · rw [if_neg z, if_neg z, if_pos (by omega)])
              have eg : zgi τ 54 0 37 - 1 = nI (gn A t - 1) := by rw [hG1.1, show (1 : Int32) = nI 1 from rfl, nI_sub (by omega)]
              have el : (nI dd = nI (gn A t - 1)) ↔ dd = gn A t - 1 := nI_eq (by omega) (by omega)
              have back : ∀ σ3, zOnly zSy σ0 σ3 → zgi σ3 82 0 dd = nI (63 - k') → (∀ i, i < dd → zgi σ3 82 0 i = zgi τ 82 0 i) → ∀ D', zSw A σ3 t w a b c e D' (evs A t (gn A t - dd) dd (rst s dd) k' ++ evU A t dd s) → 10 * (evs A t (gn A t - dd) dd (rst s dd) k' ++ evU A t dd s).length + (dd + 1) ≤ N → zE true (d + 9) kc ks M_X12_search 147 [some (.inr (.inr (54, 0))), none, none, some (.inl (nI dd)), none] [] σ3 Q := by
                intro σ3 o3 e3 q3 D' hw3 hl3
                have := ih (dd + 1) σ3 s k' D' _ hl3 hn (by omega) o3 hw3 (fun i hi => by
                  rw [Nat.add_sub_cancel] at hi
                  have := hS1 i (by omega)
                  rw [q3 i hi, this.1]
                  unfold zup
                  rw [if_neg (by omega)]
                  exact ⟨rfl, (hS i (by omega)).2⟩) (fun _ => ⟨by
                  rw [Nat.add_sub_cancel, e3, ← iI_nat]
                  congr 1
                  omega, by rw [Nat.add_sub_cancel]⟩) (fun h => by omega)
                rw [edd] at this
                exact this
              refine S_X12_stays hW hR1 ht (by omega) h9 hG1 hP1 hS1 ⟨fun g3 => ?_, fun g3 => ?_⟩
              · rw [zb_0, ← est] at g3
                rw [if_neg g3] at h1 hRl
                refine back τ o2' (by
                  have := hS1 dd (by omega)
                  rw [this.1]
                  unfold zup
                  rw [if_pos rfl]) (fun _ _ => rfl) (D ++ [none]) ⟨?_, by rw [List.length_append]; exact hD, by rw [e41, List.length_append]; rfl, ?_, ?_⟩ ?_
                · rw [err, ← h1]
                  simp
                · rw [List.filterMap_append]
                  simp
                  exact h4'
                · rw [List.filterMap_append]
                  simp
                  exact h5'
                · rw [err]
                  rw [List.append_assoc, List.length_append] at hRl
                  simp at hRl ⊢
                  omega
              · rw [zb_0, Decidable.not_not, ← est] at g3
                rw [if_pos g3] at h1 hRl
                rw [eg, el]
                refine ⟨fun g4 => ?_, fun g4 => ?_⟩
                · have hrr : rr ≠ 0 := by omega
                  rw [if_neg hrr] at h1 hRl
                  rw [← nI_succ, nI_clamp (show dd + 1 < 2 ^ 31 by omega)]
                  refine ⟨nI_in (by omega) (by omega), ?_⟩
                  have o5 : zOnly (fun c _ _ => c = 82) τ (zsi τ 82 0 (dd + 1) (-1)) := zOnly.si rfl
                  have := ih (dd + 2) (zsi τ 82 0 (dd + 1) (-1)) (zup s dd (63 - k')) 64 (D ++ [none]) (evs A t (gn A t - (dd + 1)) (dd + 1) (rst (zup s dd (63 - k')) (dd + 1)) 64 ++ evU A t (dd + 1) (zup s dd (63 - k'))) ?_ (by omega) (by omega) (o2'.tr (o5.mono (fun c j k h => Or.inl h))) ?_ (fun i hi => ?_) (fun _ => ⟨?_, rfl⟩) (fun h => by omega)
                  · rw [show (((dd + 2 : Nat) : Int) - 1) = ((dd + 1 : Nat) : Int) by omega, iI_nat] at this
                    exact this
                  · have eu : evU A t (dd + 1) (zup s dd (63 - k')) = evs A t (gn A t - dd) dd (rst s dd) k' ++ evU A t dd s := by
                      show evs A t (gn A t - dd) dd (rst (zup s dd (63 - k')) dd) (63 - zup s dd (63 - k') dd) ++ evU A t dd (zup s dd (63 - k')) = _
                      rw [rst_cong (s := zup s dd (63 - k')) (s' := s) (d := dd) (fun i hi => by unfold zup; rw [if_neg (by omega)]), evU_cong (s := zup s dd (63 - k')) (s' := s) (d := dd) (fun i hi => by unfold zup; rw [if_neg (by omega)])]
                      congr 2
                      unfold zup
                      rw [if_pos rfl]
                      omega
                    rw [eu, ← zup_rst, show gn A t - (dd + 1) = rr by omega, err]
                    simp at hRl ⊢
                    omega
                  · have eu : evU A t (dd + 1) (zup s dd (63 - k')) = evs A t (gn A t - dd) dd (rst s dd) k' ++ evU A t dd s := by
                      show evs A t (gn A t - dd) dd (rst (zup s dd (63 - k')) dd) (63 - zup s dd (63 - k') dd) ++ evU A t dd (zup s dd (63 - k')) = _
                      rw [rst_cong (s := zup s dd (63 - k')) (s' := s) (d := dd) (fun i hi => by unfold zup; rw [if_neg (by omega)]), evU_cong (s := zup s dd (63 - k')) (s' := s) (d := dd) (fun i hi => by unfold zup; rw [if_neg (by omega)])]
                      congr 2
                      unfold zup
                      rw [if_pos rfl]
                      omega
                    have : zSw A τ t w a b c e (D ++ [none]) (evs A t (gn A t - (dd + 1)) (dd + 1) (rst (zup s dd (63 - k')) (dd + 1)) 64 ++ evU A t (dd + 1) (zup s dd (63 - k'))) := by
                      refine ⟨?_, by rw [List.length_append]; exact hD, by rw [e41, List.length_append]; rfl, ?_, ?_⟩
                      · rw [eu, ← zup_rst, show gn A t - (dd + 1) = rr by omega, err, ← h1]
                        simp
                      · rw [List.filterMap_append]
                        simp
                        exact h4'
                      · rw [List.filterMap_append]
                        simp
                        exact h5'
                    exact this.only o5 (fun x k h => by omega)
                  · rw [show dd + 2 - 1 = dd + 1 by omega] at hi
                    rw [zgi_si, if_neg (by omega)]
                    exact hS1 i hi
                  · rw [show dd + 2 - 1 = dd + 1 by omega, zgi_si, if_pos ⟨rfl, rfl, rfl⟩]
                    rfl
                · have hrr : rr = 0 := by omega
                  rw [if_pos hrr] at h1 hRl
                  have hPm1 : zPm A τ t w a b c e := hP.only o2' (by unfold zSy; omega)
                  have hSf : zSs τ (zup (rst s dd) dd (63 - k')) (gn A t) := fun i hi => by
                    have := hS1 i (by omega)
                    have e1 : zup (rst s dd) dd (63 - k') i = zup s dd (63 - k') i := by
                      unfold zup rst
                      by_cases z : i = dd
                      · rw [if_pos z, if_pos z]
                      · rw [if_neg z, if_neg z, if_pos (by omega)]
                    rw [e1]
                    exact this
                  have hfl : (D.filterMap id).length < 60000 := by have := List.length_filterMap_le id D; omega
                  refine S_X12_tally h9 hfl hG1 hPm1 hSf h4' h5' (fun σ3 o3 t3 e3 => ?_)
                  refine back σ3 (o2'.tr (o3.mono (fun c j k h => by unfold zTy at h; unfold zSy; omega))) (by
                    have := hS1 dd (by omega)
                    rw [o3.i 82 0 dd (by unfold zTy; omega), this.1]
                    unfold zup
                    rw [if_pos rfl]) (fun i _ => o3.i 82 0 i (by unfold zTy; omega)) (D ++ [some (zup (rst s dd) dd (63 - k'))]) ⟨?_, by rw [List.length_append]; exact hD, ?_, ?_, ?_⟩ ?_
                  · rw [err, ← h1]
                    simp
                  · rw [o3.i 54 0 41 (by unfold zTy; omega), e41, List.length_append]; rfl
                  · rw [List.filterMap_append]
                    exact t3
                  · rw [List.filterMap_append]
                    exact e3
                  · rw [err]
                    simp at hRl ⊢
                    omega
            · have hD : D.length = 60000 := by
                rw [h3, show (60000 : Int32) = nI 60000 from rfl, nI_eq (by omega) (by omega)] at g2
                exact g2
              refine hQ0 _ (ho.tr (zOnly.si (Or.inl rfl))) ?_ (by rw [zgi_si, if_neg (by omega), h3, hD]; rfl)
              rw [← h1, List.length_append, hD]
              have : 0 < ((if stB A t (zup (rst s dd) dd (63 - k')) dd = true then (if rr = 0 then [some (zup (rst s dd) dd (63 - k'))] else none :: evs A t rr (dd + 1) (zup (rst s dd) dd (63 - k')) 64) else [none]) ++ evs A t (rr + 1) dd (rst s dd) k' ++ evU A t dd s).length := by
                split
                · split <;> (simp; try omega)
                · simp; try omega
              omega
          · have gc : ¬ gB A (mO A) (mbr A t dd) (63 - k') = true := fun q => g (Or.inr q)
            refine ihk (by omega) ?_
            rw [hR0, err, evs_skip gc]
      refine T_X12_search_147 ⟨fun g => ?_, fun _ => ⟨vd, ?_⟩⟩
      · exact absurd g (by rw [show (0 : Int32) = nI 0 from rfl, nI_ltI (by omega) (by omega)]; omega)
      · rw [nI_clamp (show dd < 2 ^ 31 by omega), r1, iI_add1, show (63 - (k : Int) + 1) = ((64 - k : Nat) : Int) by omega, iI_nat]
        exact find k hk r2
end zMq
