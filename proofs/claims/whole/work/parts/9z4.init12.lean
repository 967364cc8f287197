/-! the reference is made -/
def l12 : List (Nat × Nat) := [(101, 82), (100, 81), (99, 80), (98, 79), (97, 77), (96, 76), (95, 75), (94, 74), (93, 73), (92, 72), (91, 71), (90, 70), (89, 67), (88, 66), (87, 65), (86, 47), (85, 45), (84, 44), (83, 40), (82, 39), (81, 38), (80, 36), (79, 34), (78, 33), (77, 32), (76, 31), (75, 30), (74, 29), (73, 28), (72, 24), (71, 22), (70, 21), (69, 20), (68, 18), (67, 17), (66, 16), (65, 15), (64, 14), (63, 13), (62, 11), (61, 10), (60, 9), (59, 8), (58, 7), (57, 6), (56, 5), (55, 3)]
theorem l12_in (c : Nat) (h1 : 55 ≤ c) (h2 : c ≤ 101) : c ∈ ([(101, 82), (100, 81), (99, 80), (98, 79), (97, 77), (96, 76), (95, 75), (94, 74), (93, 73), (92, 72), (91, 71), (90, 70), (89, 67), (88, 66), (87, 65), (86, 47), (85, 45), (84, 44), (83, 40), (82, 39), (81, 38), (80, 36), (79, 34), (78, 33), (77, 32), (76, 31), (75, 30), (74, 29), (73, 28), (72, 24), (71, 22), (70, 21), (69, 20), (68, 18), (67, 17), (66, 16), (65, 15), (64, 14), (63, 13), (62, 11), (61, 10), (60, 9), (59, 8), (58, 7), (57, 6), (56, 5), (55, 3)] : List (Nat × Nat)).map Prod.fst := by
  have : ∀ c, c < 102 → 55 ≤ c → c ∈ ([(101, 82), (100, 81), (99, 80), (98, 79), (97, 77), (96, 76), (95, 75), (94, 74), (93, 73), (92, 72), (91, 71), (90, 70), (89, 67), (88, 66), (87, 65), (86, 47), (85, 45), (84, 44), (83, 40), (82, 39), (81, 38), (80, 36), (79, 34), (78, 33), (77, 32), (76, 31), (75, 30), (74, 29), (73, 28), (72, 24), (71, 22), (70, 21), (69, 20), (68, 18), (67, 17), (66, 16), (65, 15), (64, 14), (63, 13), (62, 11), (61, 10), (60, 9), (59, 8), (58, 7), (57, 6), (56, 5), (55, 3)] : List (Nat × Nat)).map Prod.fst := by decide
  exact this c (by omega) h1
theorem l12_fs (c : Nat) (h : c ∈ ([(101, 82), (100, 81), (99, 80), (98, 79), (97, 77), (96, 76), (95, 75), (94, 74), (93, 73), (92, 72), (91, 71), (90, 70), (89, 67), (88, 66), (87, 65), (86, 47), (85, 45), (84, 44), (83, 40), (82, 39), (81, 38), (80, 36), (79, 34), (78, 33), (77, 32), (76, 31), (75, 30), (74, 29), (73, 28), (72, 24), (71, 22), (70, 21), (69, 20), (68, 18), (67, 17), (66, 16), (65, 15), (64, 14), (63, 13), (62, 11), (61, 10), (60, 9), (59, 8), (58, 7), (57, 6), (56, 5), (55, 3)] : List (Nat × Nat)).map Prod.fst) : 55 ≤ c ∧ c ≤ 101 := by
  have : ∀ c ∈ ([(101, 82), (100, 81), (99, 80), (98, 79), (97, 77), (96, 76), (95, 75), (94, 74), (93, 73), (92, 72), (91, 71), (90, 70), (89, 67), (88, 66), (87, 65), (86, 47), (85, 45), (84, 44), (83, 40), (82, 39), (81, 38), (80, 36), (79, 34), (78, 33), (77, 32), (76, 31), (75, 30), (74, 29), (73, 28), (72, 24), (71, 22), (70, 21), (69, 20), (68, 18), (67, 17), (66, 16), (65, 15), (64, 14), (63, 13), (62, 11), (61, 10), (60, 9), (59, 8), (58, 7), (57, 6), (56, 5), (55, 3)] : List (Nat × Nat)).map Prod.fst, 55 ≤ c ∧ c ≤ 101 := by decide
  exact this c h
theorem l12_rf (k : Nat) (h : (zct 54 0 k).1 ≠ 0) : ((zct 54 0 k).1, k) ∈ ([(101, 82), (100, 81), (99, 80), (98, 79), (97, 77), (96, 76), (95, 75), (94, 74), (93, 73), (92, 72), (91, 71), (90, 70), (89, 67), (88, 66), (87, 65), (86, 47), (85, 45), (84, 44), (83, 40), (82, 39), (81, 38), (80, 36), (79, 34), (78, 33), (77, 32), (76, 31), (75, 30), (74, 29), (73, 28), (72, 24), (71, 22), (70, 21), (69, 20), (68, 18), (67, 17), (66, 16), (65, 15), (64, 14), (63, 13), (62, 11), (61, 10), (60, 9), (59, 8), (58, 7), (57, 6), (56, 5), (55, 3)] : List (Nat × Nat)) ∧ 55 ≤ (zct 54 0 k).1 ∧ (zct 54 0 k).1 ≤ 101 ∧ ((zct 54 0 k).1, 0) = zct 54 0 k := by
  have hk : k < 83 := by
    rcases Nat.lt_or_ge k 83 with q | q
    · exact q
    · refine absurd ?_ h
      obtain ⟨x, rfl⟩ := Nat.exists_eq_add_of_le q
      rw [Nat.add_comm]
      rfl
  have : ∀ k, k < 83 → (zct 54 0 k).1 ≠ 0 → ((zct 54 0 k).1, k) ∈ ([(101, 82), (100, 81), (99, 80), (98, 79), (97, 77), (96, 76), (95, 75), (94, 74), (93, 73), (92, 72), (91, 71), (90, 70), (89, 67), (88, 66), (87, 65), (86, 47), (85, 45), (84, 44), (83, 40), (82, 39), (81, 38), (80, 36), (79, 34), (78, 33), (77, 32), (76, 31), (75, 30), (74, 29), (73, 28), (72, 24), (71, 22), (70, 21), (69, 20), (68, 18), (67, 17), (66, 16), (65, 15), (64, 14), (63, 13), (62, 11), (61, 10), (60, 9), (59, 8), (58, 7), (57, 6), (56, 5), (55, 3)] : List (Nat × Nat)) ∧ 55 ≤ (zct 54 0 k).1 ∧ (zct 54 0 k).1 ≤ 101 ∧ ((zct 54 0 k).1, 0) = zct 54 0 k := by decide +kernel
  exact this k hk h
section zIm
variable {d kc ks : Nat} {σ : zSt} {Q : Option zV → zSt → Prop}
theorem zfill_on {υ : zSt} {c i : Nat} {v : Int32} {M : Nat → Nat → Nat → Prop} (h : ∀ k, M c 0 k) : zOnly M υ (zfill υ c v i) := fun a b e hn => ⟨by rw [zfill_gi, if_neg (fun q => hn (by rw [q.1, q.2.1]; exact h e))], rfl, rfl⟩
theorem L_X12_init_396 {υ : zSt} (hr : zgr υ 54 0 11 = (62, 0)) (hQ : zE false (d + 1) kc ks M_X12_init 418 [some (.inr (.inr (54, 0))), some (.inl 0)] [] (zfill υ 62 (-9) 24) Q) : zE false (d + 1) kc ks M_X12_init 396 [some (.inr (.inr (54, 0))), some (.inl 0)] [] υ Q := by
  have key : ∀ n i, i + n = 24 → zE false (d + 1) kc ks M_X12_init 396 [some (.inr (.inr (54, 0))), some (.inl (nI i))] [] (zfill υ 62 (-9) i) Q := by
    intro n
    induction n with
    | zero =>
      intro i hi
      have : i = 24 := by omega
      subst this
      exact T_X12_init_396 ⟨fun _ => hQ, fun h => absurd (by decide) h⟩
    | succ n ih =>
      intro i hi
      refine T_X12_init_396 ⟨fun h => absurd h ?_, fun _ => ⟨hr, nI_in (by omega) (by omega), ?_⟩⟩
      · rw [show (24 : Int32) = nI 24 from rfl, Int32.le_iff_toInt_le, nI_toInt (by omega), nI_toInt (by omega)]
        omega
      · rw [nI_clamp (by omega), zfill_s, show (nI i + 1 : Int32) = nI (i + 1) from (nI_add i 1)]
        exact ih (i + 1) (by omega)
  have := key 24 0 (by omega)
  rw [zfill_0] at this
  exact this
theorem L_X12_init_418 {υ : zSt} (hr : zgr υ 54 0 79 = (98, 0)) (hQ : zE false (d + 1) kc ks M_X12_init 438 [some (.inr (.inr (54, 0))), some (.inl 0)] [] (zfill υ 98 (-1) 4) Q) : zE false (d + 1) kc ks M_X12_init 418 [some (.inr (.inr (54, 0))), some (.inl 0)] [] υ Q := by
  have key : ∀ n i, i + n = 4 → zE false (d + 1) kc ks M_X12_init 418 [some (.inr (.inr (54, 0))), some (.inl (nI i))] [] (zfill υ 98 (-1) i) Q := by
    intro n
    induction n with
    | zero =>
      intro i hi
      have : i = 4 := by omega
      subst this
      exact T_X12_init_418 ⟨fun _ => hQ, fun h => absurd (by decide) h⟩
    | succ n ih =>
      intro i hi
      refine T_X12_init_418 ⟨fun h => absurd h ?_, fun _ => ⟨hr, nI_in (by omega) (by omega), ?_⟩⟩
      · rw [show (4 : Int32) = nI 4 from rfl, Int32.le_iff_toInt_le, nI_toInt (by omega), nI_toInt (by omega)]
        omega
      · rw [nI_clamp (by omega), zfill_s, show (nI i + 1 : Int32) = nI (i + 1) from (nI_add i 1)]
        exact ih (i + 1) (by omega)
  have := key 4 0 (by omega)
  rw [zfill_0] at this
  exact this
theorem L_X12_init_438 {υ : zSt} (hr : zgr υ 54 0 73 = (93, 0)) (hQ : Q none (zfill υ 93 (-9) 8)) : zE false (d + 1) kc ks M_X12_init 438 [some (.inr (.inr (54, 0))), some (.inl 0)] [] υ Q := by
  have key : ∀ n i, i + n = 8 → zE false (d + 1) kc ks M_X12_init 438 [some (.inr (.inr (54, 0))), some (.inl (nI i))] [] (zfill υ 93 (-9) i) Q := by
    intro n
    induction n with
    | zero =>
      intro i hi
      have : i = 8 := by omega
      subst this
      exact T_X12_init_438 ⟨fun _ => hQ, fun h => absurd (by decide) h⟩
    | succ n ih =>
      intro i hi
      refine T_X12_init_438 ⟨fun h => absurd h ?_, fun _ => ⟨hr, nI_in (by omega) (by omega), ?_⟩⟩
      · rw [show (8 : Int32) = nI 8 from rfl, Int32.le_iff_toInt_le, nI_toInt (by omega), nI_toInt (by omega)]
        omega
      · rw [nI_clamp (by omega), zfill_s, show (nI i + 1 : Int32) = nI (i + 1) from (nI_add i 1)]
        exact ih (i + 1) (by omega)
  have := key 8 0 (by omega)
  rw [zfill_0] at this
  exact this
theorem S_X12_init {K : zSt → Prop} (hZ : zZ0 σ) (h1 : zcn σ 54 = 1) (h0 : ∀ c, 55 ≤ c → c ≤ 101 → zcn σ c = 0) (hv : ∀ k, zgi σ 54 0 k = 0) (hK : ∀ σ', zZ0 σ' → zOnly (fun c _ _ => 54 ≤ c) σ σ' → (∀ c, zcn σ' c = if 55 ≤ c ∧ c ≤ 101 then 1 else zcn σ c) → (∀ k, (zct 54 0 k).1 ≠ 0 → zgr σ' 54 0 k = zct 54 0 k) → (∀ c k, 54 ≤ c → c ≤ 101 → zgi σ' c 0 k = if c = 54 ∧ (k = 1 ∨ k = 2) then 8 else if (c = 62 ∧ k < 24) ∨ (c = 93 ∧ k < 8) then -9 else if c = 98 ∧ k < 4 then -1 else 0) → K σ') : zCv false (d + 1) 47 25099 M_X12_init [.inr (.inr (54, 0))] σ K := by
  have b0 : zMp 54 0 [] σ σ := zMp.rf hZ
  refine zC_intro pl_X12 (Nat.le_of_ble_eq_true rfl) ?_
  refine T_X12_init_0 (kc := 46) (ks := 25035) ?_
  have b1 := b0.next (c := 55) (k := 3) (by decide) (by decide) (by decide) (by decide) (by omega)
  generalize zsr (znew σ 55) 54 0 3 (55, zcn σ 55) = σ1 at b1 ⊢
  clear b0
  refine T_X12_init_12 (kc := 45) (ks := 25011) ?_
  have b2 := b1.next (c := 56) (k := 5) (by decide) (by decide) (by decide) (by decide) (by omega)
  generalize zsr (znew σ1 56) 54 0 5 (56, zcn σ1 56) = σ2 at b2 ⊢
  clear b1
  refine T_X12_init_20 (kc := 44) (ks := 24987) ?_
  have b3 := b2.next (c := 57) (k := 6) (by decide) (by decide) (by decide) (by decide) (by omega)
  generalize zsr (znew σ2 57) 54 0 6 (57, zcn σ2 57) = σ3 at b3 ⊢
  clear b2
  refine T_X12_init_28 (kc := 43) (ks := 24891) ?_
  have b4 := b3.next (c := 58) (k := 7) (by decide) (by decide) (by decide) (by decide) (by omega)
  generalize zsr (znew σ3 58) 54 0 7 (58, zcn σ3 58) = σ4 at b4 ⊢
  clear b3
  refine T_X12_init_36 (kc := 42) (ks := 24867) ?_
  have b5 := b4.next (c := 59) (k := 8) (by decide) (by decide) (by decide) (by decide) (by omega)
  generalize zsr (znew σ4 59) 54 0 8 (59, zcn σ4 59) = σ5 at b5 ⊢
  clear b4
  refine T_X12_init_44 (kc := 41) (ks := 24843) ?_
  have b6 := b5.next (c := 60) (k := 9) (by decide) (by decide) (by decide) (by decide) (by omega)
  generalize zsr (znew σ5 60) 54 0 9 (60, zcn σ5 60) = σ6 at b6 ⊢
  clear b5
  refine T_X12_init_52 (kc := 40) (ks := 24819) ?_
  have b7 := b6.next (c := 61) (k := 10) (by decide) (by decide) (by decide) (by decide) (by omega)
  generalize zsr (znew σ6 61) 54 0 10 (61, zcn σ6 61) = σ7 at b7 ⊢
  clear b6
  refine T_X12_init_60 (kc := 39) (ks := 24795) ?_
  have b8 := b7.next (c := 62) (k := 11) (by decide) (by decide) (by decide) (by decide) (by omega)
  generalize zsr (znew σ7 62) 54 0 11 (62, zcn σ7 62) = σ8 at b8 ⊢
  clear b7
  refine T_X12_init_68 (kc := 38) (ks := 24735) ?_
  have b9 := b8.next (c := 63) (k := 13) (by decide) (by decide) (by decide) (by decide) (by omega)
  generalize zsr (znew σ8 63) 54 0 13 (63, zcn σ8 63) = σ9 at b9 ⊢
  clear b8
  refine T_X12_init_76 (kc := 37) (ks := 24675) ?_
  have b10 := b9.next (c := 64) (k := 14) (by decide) (by decide) (by decide) (by decide) (by omega)
  generalize zsr (znew σ9 64) 54 0 14 (64, zcn σ9 64) = σ10 at b10 ⊢
  clear b9
  refine T_X12_init_84 (kc := 36) (ks := 24615) ?_
  have b11 := b10.next (c := 65) (k := 15) (by decide) (by decide) (by decide) (by decide) (by omega)
  generalize zsr (znew σ10 65) 54 0 15 (65, zcn σ10 65) = σ11 at b11 ⊢
  clear b10
  refine T_X12_init_92 (kc := 35) (ks := 24555) ?_
  have b12 := b11.next (c := 66) (k := 16) (by decide) (by decide) (by decide) (by decide) (by omega)
  generalize zsr (znew σ11 66) 54 0 16 (66, zcn σ11 66) = σ12 at b12 ⊢
  clear b11
  refine T_X12_init_100 (kc := 34) (ks := 24495) ?_
  have b13 := b12.next (c := 67) (k := 17) (by decide) (by decide) (by decide) (by decide) (by omega)
  generalize zsr (znew σ12 67) 54 0 17 (67, zcn σ12 67) = σ13 at b13 ⊢
  clear b12
  refine T_X12_init_108 (kc := 33) (ks := 24435) ?_
  have b14 := b13.next (c := 68) (k := 18) (by decide) (by decide) (by decide) (by decide) (by omega)
  generalize zsr (znew σ13 68) 54 0 18 (68, zcn σ13 68) = σ14 at b14 ⊢
  clear b13
  refine T_X12_init_116 (kc := 32) (ks := 24432) ?_
  have b15 := b14.next (c := 69) (k := 20) (by decide) (by decide) (by decide) (by decide) (by omega)
  generalize zsr (znew σ14 69) 54 0 20 (69, zcn σ14 69) = σ15 at b15 ⊢
  clear b14
  refine T_X12_init_123 (kc := 31) (ks := 24429) ?_
  have b16 := b15.next (c := 70) (k := 21) (by decide) (by decide) (by decide) (by decide) (by omega)
  generalize zsr (znew σ15 70) 54 0 21 (70, zcn σ15 70) = σ16 at b16 ⊢
  clear b15
  refine T_X12_init_130 (kc := 30) (ks := 24426) ?_
  have b17 := b16.next (c := 71) (k := 22) (by decide) (by decide) (by decide) (by decide) (by omega)
  generalize zsr (znew σ16 71) 54 0 22 (71, zcn σ16 71) = σ17 at b17 ⊢
  clear b16
  refine T_X12_init_137 (kc := 29) (ks := 24366) ?_
  have b18 := b17.next (c := 72) (k := 24) (by decide) (by decide) (by decide) (by decide) (by omega)
  generalize zsr (znew σ17 72) 54 0 24 (72, zcn σ17 72) = σ18 at b18 ⊢
  clear b17
  refine T_X12_init_145 (kc := 28) (ks := 24302) ?_
  have b19 := b18.next (c := 73) (k := 28) (by decide) (by decide) (by decide) (by decide) (by omega)
  generalize zsr (znew σ18 73) 54 0 28 (73, zcn σ18 73) = σ19 at b19 ⊢
  clear b18
  refine T_X12_init_153 (kc := 27) (ks := 24238) ?_
  have b20 := b19.next (c := 74) (k := 29) (by decide) (by decide) (by decide) (by decide) (by omega)
  generalize zsr (znew σ19 74) 54 0 29 (74, zcn σ19 74) = σ20 at b20 ⊢
  clear b19
  refine T_X12_init_161 (kc := 26) (ks := 20398) ?_
  have b21 := b20.next (c := 75) (k := 30) (by decide) (by decide) (by decide) (by decide) (by omega)
  generalize zsr (znew σ20 75) 54 0 30 (75, zcn σ20 75) = σ21 at b21 ⊢
  clear b20
  refine T_X12_init_170 (kc := 25) (ks := 16558) ?_
  have b22 := b21.next (c := 76) (k := 31) (by decide) (by decide) (by decide) (by decide) (by omega)
  generalize zsr (znew σ21 76) 54 0 31 (76, zcn σ21 76) = σ22 at b22 ⊢
  clear b21
  refine T_X12_init_179 (kc := 24) (ks := 16498) ?_
  have b23 := b22.next (c := 77) (k := 32) (by decide) (by decide) (by decide) (by decide) (by omega)
  generalize zsr (znew σ22 77) 54 0 32 (77, zcn σ22 77) = σ23 at b23 ⊢
  clear b22
  refine T_X12_init_187 (kc := 23) (ks := 16474) ?_
  have b24 := b23.next (c := 78) (k := 33) (by decide) (by decide) (by decide) (by decide) (by omega)
  generalize zsr (znew σ23 78) 54 0 33 (78, zcn σ23 78) = σ24 at b24 ⊢
  clear b23
  refine T_X12_init_195 (kc := 22) (ks := 16450) ?_
  have b25 := b24.next (c := 79) (k := 34) (by decide) (by decide) (by decide) (by decide) (by omega)
  generalize zsr (znew σ24 79) 54 0 34 (79, zcn σ24 79) = σ25 at b25 ⊢
  clear b24
  refine T_X12_init_203 (kc := 21) (ks := 16390) ?_
  have b26 := b25.next (c := 80) (k := 36) (by decide) (by decide) (by decide) (by decide) (by omega)
  generalize zsr (znew σ25 80) 54 0 36 (80, zcn σ25 80) = σ26 at b26 ⊢
  clear b25
  refine T_X12_init_211 (kc := 20) (ks := 16366) ?_
  have b27 := b26.next (c := 81) (k := 38) (by decide) (by decide) (by decide) (by decide) (by omega)
  generalize zsr (znew σ26 81) 54 0 38 (81, zcn σ26 81) = σ27 at b27 ⊢
  clear b26
  refine T_X12_init_219 (kc := 19) (ks := 16342) ?_
  have b28 := b27.next (c := 82) (k := 39) (by decide) (by decide) (by decide) (by decide) (by omega)
  generalize zsr (znew σ27 82) 54 0 39 (82, zcn σ27 82) = σ28 at b28 ⊢
  clear b27
  refine T_X12_init_227 (kc := 18) (ks := 11158) ?_
  have b29 := b28.next (c := 83) (k := 40) (by decide) (by decide) (by decide) (by decide) (by omega)
  generalize zsr (znew σ28 83) 54 0 40 (83, zcn σ28 83) = σ29 at b29 ⊢
  clear b28
  refine T_X12_init_236 (kc := 17) (ks := 10582) ?_
  have b30 := b29.next (c := 84) (k := 44) (by decide) (by decide) (by decide) (by decide) (by omega)
  generalize zsr (znew σ29 84) 54 0 44 (84, zcn σ29 84) = σ30 at b30 ⊢
  clear b29
  refine T_X12_init_245 (kc := 16) (ks := 2563) ?_
  have b31 := b30.next (c := 85) (k := 45) (by decide) (by decide) (by decide) (by decide) (by omega)
  generalize zsr (znew σ30 85) 54 0 45 (85, zcn σ30 85) = σ31 at b31 ⊢
  clear b30
  refine T_X12_init_254 (kc := 15) (ks := 2554) ?_
  have b32 := b31.next (c := 86) (k := 47) (by decide) (by decide) (by decide) (by decide) (by omega)
  generalize zsr (znew σ31 86) 54 0 47 (86, zcn σ31 86) = σ32 at b32 ⊢
  clear b31
  refine T_X12_init_262 (kc := 14) (ks := 2530) ?_
  have b33 := b32.next (c := 87) (k := 65) (by decide) (by decide) (by decide) (by decide) (by omega)
  generalize zsr (znew σ32 87) 54 0 65 (87, zcn σ32 87) = σ33 at b33 ⊢
  clear b32
  refine T_X12_init_270 (kc := 13) (ks := 2506) ?_
  have b34 := b33.next (c := 88) (k := 66) (by decide) (by decide) (by decide) (by decide) (by omega)
  generalize zsr (znew σ33 88) 54 0 66 (88, zcn σ33 88) = σ34 at b34 ⊢
  clear b33
  refine T_X12_init_278 (kc := 12) (ks := 1994) ?_
  have b35 := b34.next (c := 89) (k := 67) (by decide) (by decide) (by decide) (by decide) (by omega)
  generalize zsr (znew σ34 89) 54 0 67 (89, zcn σ34 89) = σ35 at b35 ⊢
  clear b34
  refine T_X12_init_287 (kc := 11) (ks := 1970) ?_
  have b36 := b35.next (c := 90) (k := 70) (by decide) (by decide) (by decide) (by decide) (by omega)
  generalize zsr (znew σ35 90) 54 0 70 (90, zcn σ35 90) = σ36 at b36 ⊢
  clear b35
  refine T_X12_init_295 (kc := 10) (ks := 1968) ?_
  have b37 := b36.next (c := 91) (k := 71) (by decide) (by decide) (by decide) (by decide) (by omega)
  generalize zsr (znew σ36 91) 54 0 71 (91, zcn σ36 91) = σ37 at b37 ⊢
  clear b36
  refine T_X12_init_302 (kc := 9) (ks := 368) ?_
  have b38 := b37.next (c := 92) (k := 72) (by decide) (by decide) (by decide) (by decide) (by omega)
  generalize zsr (znew σ37 92) 54 0 72 (92, zcn σ37 92) = σ38 at b38 ⊢
  clear b37
  refine T_X12_init_311 (kc := 8) (ks := 360) ?_
  have b39 := b38.next (c := 93) (k := 73) (by decide) (by decide) (by decide) (by decide) (by omega)
  generalize zsr (znew σ38 93) 54 0 73 (93, zcn σ38 93) = σ39 at b39 ⊢
  clear b38
  refine T_X12_init_319 (kc := 7) (ks := 352) ?_
  have b40 := b39.next (c := 94) (k := 74) (by decide) (by decide) (by decide) (by decide) (by omega)
  generalize zsr (znew σ39 94) 54 0 74 (94, zcn σ39 94) = σ40 at b40 ⊢
  clear b39
  refine T_X12_init_327 (kc := 6) (ks := 344) ?_
  have b41 := b40.next (c := 95) (k := 75) (by decide) (by decide) (by decide) (by decide) (by omega)
  generalize zsr (znew σ40 95) 54 0 75 (95, zcn σ40 95) = σ41 at b41 ⊢
  clear b40
  refine T_X12_init_335 (kc := 5) (ks := 336) ?_
  have b42 := b41.next (c := 96) (k := 76) (by decide) (by decide) (by decide) (by decide) (by omega)
  generalize zsr (znew σ41 96) 54 0 76 (96, zcn σ41 96) = σ42 at b42 ⊢
  clear b41
  refine T_X12_init_343 (kc := 4) (ks := 328) ?_
  have b43 := b42.next (c := 97) (k := 77) (by decide) (by decide) (by decide) (by decide) (by omega)
  generalize zsr (znew σ42 97) 54 0 77 (97, zcn σ42 97) = σ43 at b43 ⊢
  clear b42
  refine T_X12_init_351 (kc := 3) (ks := 324) ?_
  have b44 := b43.next (c := 98) (k := 79) (by decide) (by decide) (by decide) (by decide) (by omega)
  generalize zsr (znew σ43 98) 54 0 79 (98, zcn σ43 98) = σ44 at b44 ⊢
  clear b43
  refine T_X12_init_358 (kc := 2) (ks := 320) ?_
  have b45 := b44.next (c := 99) (k := 80) (by decide) (by decide) (by decide) (by decide) (by omega)
  generalize zsr (znew σ44 99) 54 0 80 (99, zcn σ44 99) = σ45 at b45 ⊢
  clear b44
  refine T_X12_init_365 (kc := 1) (ks := 64) ?_
  have b46 := b45.next (c := 100) (k := 81) (by decide) (by decide) (by decide) (by decide) (by omega)
  generalize zsr (znew σ45 100) 54 0 81 (100, zcn σ45 100) = σ46 at b46 ⊢
  clear b45
  refine T_X12_init_374 (kc := 0) (ks := 0) ?_
  have b47 := b46.next (c := 101) (k := 82) (by decide) (by decide) (by decide) (by decide) (by omega)
  generalize zsr (znew σ46 101) 54 0 82 (101, zcn σ46 101) = σ47 at b47 ⊢
  clear b46
  obtain ⟨z, gi, gl, gr, cn, rf⟩ := b47
  have c1 : ∀ c, zcn σ47 c = if 55 ≤ c ∧ c ≤ 101 then 1 else zcn σ c := fun c => by
    rw [cn c]
    by_cases e : 55 ≤ c ∧ c ≤ 101
    · rw [if_pos e, h0 c e.1 e.2, if_pos (l12_in c e.1 e.2)]
    · rw [if_neg e, if_neg (fun q => e (l12_fs c q)), Nat.add_zero]
  have rr : ∀ k, (zct 54 0 k).1 ≠ 0 → zgr σ47 54 0 k = zct 54 0 k := fun k hk => by
    obtain ⟨q1, q2, q3, q4⟩ := l12_rf k hk
    rw [rf _ q1, h0 _ q2 q3, q4]
  have on : zOnly (fun c _ _ => 54 ≤ c) σ σ47 := fun a b e hn => ⟨gi a b e, gl a b e, gr a b e (fun q => hn (by omega))⟩
  have g0 : ∀ c k, 54 ≤ c → c ≤ 101 → zgi σ47 c 0 k = 0 := fun c k e1 e2 => by
    rw [gi]
    by_cases q : c = 54
    · rw [q]; exact hv k
    · exact (hZ c 0 k (by omega) (by rw [h0 c (by omega) e2]; exact Nat.le_refl _)).1
  clear rf cn gi gl gr
  generalize σ47 = τ at z c1 rr on g0 ⊢
  refine T_X12_init_382 (T_X12_init_388 (T_X12_init_394 ?_))
  have e54 : 0 < zcn τ 54 := by rw [c1, if_neg (by omega)]; omega
  have ecn : ∀ c, 55 ≤ c → c ≤ 101 → 0 < zcn τ c := fun c e1 e2 => by rw [c1, if_pos ⟨e1, e2⟩]; exact Nat.one_pos
  have z2 : zZ0 (zsi (zsi τ 54 0 1 8) 54 0 2 8) := (z.si e54).si e54
  have o2 : zOnly (fun c _ _ => 54 ≤ c) σ (zsi (zsi τ 54 0 1 8) 54 0 2 8) := on.tr ((zOnly.si (Nat.le_refl _)).tr (zOnly.si (Nat.le_refl _)))
  have g2 : ∀ c k, 54 ≤ c → c ≤ 101 → zgi (zsi (zsi τ 54 0 1 8) 54 0 2 8) c 0 k = if c = 54 ∧ (k = 1 ∨ k = 2) then 8 else 0 := fun c k e1 e2 => by
    rw [zgi_si, zgi_si, g0 c k e1 e2]
    by_cases q1 : c = 54 ∧ k = 2
    · rw [if_pos ⟨q1.1, rfl, q1.2⟩, if_pos ⟨q1.1, Or.inr q1.2⟩]
    · rw [if_neg (fun w => q1 ⟨w.1, w.2.2⟩)]
      by_cases q2 : c = 54 ∧ k = 1
      · rw [if_pos ⟨q2.1, rfl, q2.2⟩, if_pos ⟨q2.1, Or.inl q2.2⟩]
      · rw [if_neg (fun w => q2 ⟨w.1, w.2.2⟩), if_neg (by omega)]
  have r2 : ∀ k, (zct 54 0 k).1 ≠ 0 → zgr (zsi (zsi τ 54 0 1 8) 54 0 2 8) 54 0 k = zct 54 0 k := rr
  have c2 : ∀ c, zcn (zsi (zsi τ 54 0 1 8) 54 0 2 8) c = if 55 ≤ c ∧ c ≤ 101 then 1 else zcn σ c := c1
  generalize zsi (zsi τ 54 0 1 8) 54 0 2 8 = υ at z2 o2 g2 r2 c2 ⊢
  have ucn : ∀ c, 55 ≤ c → c ≤ 101 → 0 < zcn υ c := fun c e1 e2 => by rw [c2, if_pos ⟨e1, e2⟩]; exact Nat.one_pos
  refine L_X12_init_396 (r2 11 (by decide)) (L_X12_init_418 (r2 79 (by decide)) (L_X12_init_438 (r2 73 (by decide)) ?_))
  · refine ⟨rfl, hK _ (zfill_Z (zfill_Z (zfill_Z z2 (ucn 62 (by omega) (by omega))) (ucn 98 (by omega) (by omega))) (ucn 93 (by omega) (by omega))) (o2.tr (((zfill_on (fun _ => by omega)).tr (zfill_on (fun _ => by omega))).tr (zfill_on (fun _ => by omega)))) c2 r2 (fun c k e1 e2 => ?_)⟩
    rw [zfill_gi, zfill_gi, zfill_gi, g2 c k e1 e2]
    by_cases q1 : c = 93 ∧ k < 8
    · rw [if_pos ⟨q1.1, rfl, q1.2⟩, if_neg (by omega), if_pos (Or.inr q1)]
    · rw [if_neg (fun w => q1 ⟨w.1, w.2.2⟩)]
      by_cases q2 : c = 98 ∧ k < 4
      · rw [if_pos ⟨q2.1, rfl, q2.2⟩, if_neg (by omega), if_neg (by omega), if_pos q2]
      · rw [if_neg (fun w => q2 ⟨w.1, w.2.2⟩)]
        by_cases q3 : c = 62 ∧ k < 24
        · rw [if_pos ⟨q3.1, rfl, q3.2⟩, if_neg (by omega), if_pos (Or.inl q3)]
        · rw [if_neg (fun w => q3 ⟨w.1, w.2.2⟩)]
          by_cases q4 : c = 54 ∧ (k = 1 ∨ k = 2)
          · rw [if_pos q4, if_pos q4]
          · rw [if_neg q4, if_neg q4, if_neg (by omega), if_neg q2]
end zIm
