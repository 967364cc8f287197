/-! the class is made -/
def zA00 : zAb := (fun _ => 0, fun _ _ => 0, fun _ _ => 0, fun _ _ => false)
def zAst : zAb := aField zA00 8 8
section zIa
variable {d kc ks j : Nat} {σ σ' : zSt} {Q : Option zV → zSt → Prop} {M : Nat → Nat → Nat → Prop}
theorem zZ0.keep (h : zZ0 σ) (ho : zOnly M σ σ') (hh : σ'.2.2.2 = σ.2.2.2) (hm : ∀ a b e, M a b e → 5 < a → b < zcn σ a) : zZ0 σ' := fun a b e h1 h2 => by
  have h3 : zcn σ a ≤ b := by
    have : zcn σ' a = zcn σ a := by unfold zcn; rw [hh]
    omega
  have hn : ¬ M a b e := fun q => by have := hm a b e q h1; omega
  rw [ho.i a b e hn, ho.l a b e hn, ho.r a b e hn]
  exact h a b e h1 h3
theorem S_X1_clear2 {K : zSt → Prop} (hK : ∀ σ', zRD zAst σ' j → zOnly (fun c i _ => c = 7 ∧ i = j) σ σ' → σ'.2.2.2 = σ.2.2.2 → (∀ a b e, zgr σ' a b e = zgr σ a b e) → K σ') : zCv false (d + 3) 0 0 M_X1_clear [.inr (.inr (7, j)), .inl 8, .inl 8] σ K := by
  refine zC_intro pl_X1 (Nat.le_of_ble_eq_true rfl) (T_X1_clear_0 ?_)
  rw [show (8 - 1 : Int32) = nI 7 from rfl]
  refine S_X11_boxed (x1 := 0) (y1 := 0) (x2 := 7) (y2 := 7) (Nat.zero_le _) (by omega) (Nat.zero_le _) (by omega) ⟨rfl, hK _ ⟨⟨?_, ?_, ?_, ?_, ?_, ?_, ?_, ?_, ?_⟩, fun t ht => absurd ht (Nat.not_lt_zero t), fun t ht => absurd ht (Nat.not_lt_zero t), fun t ht => absurd ht (Nat.not_lt_zero t)⟩ ?_ rfl (fun _ _ _ => rfl)⟩
  · simp [zgi_si, zgi_sl]; rfl
  · simp [zgi_si, zgi_sl]; rfl
  · rw [zgl_si, zgl_si, zgl_sl, if_neg (by omega), zgl_si, zgl_si, zgl_si, zgl_sl, if_pos ⟨rfl, rfl, rfl⟩]
    refine zset_cong (fun c hc => ?_)
    have : ∀ c, c < 64 → bxC 0 0 7 7 c = afree zAst c := by decide
    exact this c hc
  · simp [zgi_si, zgi_sl]; rfl
  · simp [zgi_si, zgi_sl]
    exact (yset_0.mpr (fun i hi => rfl)).symm
  · simp [zgi_si, zgi_sl]; rfl
  · rw [zgl_si, zgl_si, zgl_sl, if_pos ⟨rfl, rfl, rfl⟩]
    exact zset_eq (fun i hi => by rw [tb_0]; rfl)
  · simp [zgi_si, zgi_sl]; rfl
  · simp [zgi_si, zgi_sl]; rfl
  · exact ((((((((zOnly.si ⟨rfl, rfl⟩).tr (zOnly.si ⟨rfl, rfl⟩)).tr (zOnly.sl ⟨rfl, rfl⟩)).tr (zOnly.si ⟨rfl, rfl⟩)).tr (zOnly.si ⟨rfl, rfl⟩)).tr (zOnly.si ⟨rfl, rfl⟩)).tr (zOnly.sl ⟨rfl, rfl⟩)).tr (zOnly.si ⟨rfl, rfl⟩)).tr (zOnly.si ⟨rfl, rfl⟩)
theorem S_X1_init {K : zSt → Prop} (hZ : zZ0 σ) (h7 : j < zcn σ 7) (hc : ∀ c, 23 ≤ c → c ≤ 30 → zcn σ c = j) (hK : ∀ σ', zZ0 σ' → zOnly (fun a b _ => a = 7 ∧ b = j) σ σ' → (∀ c, zcn σ' c = if 23 ≤ c ∧ c ≤ 30 then j + 1 else zcn σ c) → (∀ q ∈ ([(23, 4), (24, 5), (25, 6), (26, 9), (27, 12), (28, 13), (29, 14), (30, 16)] : List (Nat × Nat)), zgr σ' 7 j q.2 = (q.1, j)) → zRD zAst σ' j → K σ') : zCv false (d + 4) 8 165 M_X1_init [.inr (.inr (7, j))] σ K := by
  have b0 : zMp 7 j [] σ σ := zMp.rf hZ
  refine zC_intro pl_X1 (Nat.le_of_ble_eq_true rfl) ?_
  refine T_X1_init_0 (kc := 7) (ks := 141) ?_
  have b1 := b0.next (c := 23) (k := 4) (by decide) (by decide) (by decide) (by decide) h7
  generalize zsr (znew σ 23) 7 j 4 (23, zcn σ 23) = σ1 at b1 ⊢
  refine T_X1_init_13 (kc := 6) (ks := 117) ?_
  have b2 := b1.next (c := 24) (k := 5) (by decide) (by decide) (by decide) (by decide) h7
  generalize zsr (znew σ1 24) 7 j 5 (24, zcn σ1 24) = σ2 at b2 ⊢
  refine T_X1_init_21 (kc := 5) (ks := 93) ?_
  have b3 := b2.next (c := 25) (k := 6) (by decide) (by decide) (by decide) (by decide) h7
  generalize zsr (znew σ2 25) 7 j 6 (25, zcn σ2 25) = σ3 at b3 ⊢
  refine T_X1_init_29 (kc := 4) (ks := 33) ?_
  have b4 := b3.next (c := 26) (k := 9) (by decide) (by decide) (by decide) (by decide) h7
  generalize zsr (znew σ3 26) 7 j 9 (26, zcn σ3 26) = σ4 at b4 ⊢
  refine T_X1_init_38 (kc := 3) (ks := 30) ?_
  have b5 := b4.next (c := 27) (k := 12) (by decide) (by decide) (by decide) (by decide) h7
  generalize zsr (znew σ4 27) 7 j 12 (27, zcn σ4 27) = σ5 at b5 ⊢
  refine T_X1_init_45 (kc := 2) (ks := 27) ?_
  have b6 := b5.next (c := 28) (k := 13) (by decide) (by decide) (by decide) (by decide) h7
  generalize zsr (znew σ5 28) 7 j 13 (28, zcn σ5 28) = σ6 at b6 ⊢
  refine T_X1_init_52 (kc := 1) (ks := 24) ?_
  have b7 := b6.next (c := 29) (k := 14) (by decide) (by decide) (by decide) (by decide) h7
  generalize zsr (znew σ6 29) 7 j 14 (29, zcn σ6 29) = σ7 at b7 ⊢
  refine T_X1_init_59 (kc := 0) (ks := 0) ?_
  have b8 := b7.next (c := 30) (k := 16) (by decide) (by decide) (by decide) (by decide) h7
  generalize zsr (znew σ7 30) 7 j 16 (30, zcn σ7 30) = σ8 at b8 ⊢
  clear b0 b1 b2 b3 b4 b5 b6 b7
  have cn : ∀ c, zcn σ8 c = if 23 ≤ c ∧ c ≤ 30 then j + 1 else zcn σ c := fun c => by
    rw [b8.2.2.2.2.1 c]
    have hin : ∀ c, c < 31 → 23 ≤ c → c ∈ ([(30, 16), (29, 14), (28, 13), (27, 12), (26, 9), (25, 6), (24, 5), (23, 4)] : List (Nat × Nat)).map Prod.fst := by decide
    have hout : ∀ c ∈ ([(30, 16), (29, 14), (28, 13), (27, 12), (26, 9), (25, 6), (24, 5), (23, 4)] : List (Nat × Nat)).map Prod.fst, 23 ≤ c ∧ c ≤ 30 := by decide
    by_cases e : 23 ≤ c ∧ c ≤ 30
    · rw [if_pos e, if_pos (hin c (by omega) e.1), hc c e.1 e.2]
    · rw [if_neg e, if_neg (fun q => e (hout c q)), Nat.add_zero]
  refine T_X1_init_67 (S_X1_clear2 (fun σ' r o hh rr => ⟨rfl, hK σ' (b8.1.keep o hh (fun a b e q _ => by rw [q.1, q.2, cn, if_neg (by omega)]; exact h7)) ((b8.on.mono (fun a b e q => ⟨q.1, q.2.1⟩)).tr o) (fun c => by rw [← cn c]; unfold zcn; rw [hh]) (fun q hq => ?_) r⟩))
  have hmem : ∀ q ∈ ([(23, 4), (24, 5), (25, 6), (26, 9), (27, 12), (28, 13), (29, 14), (30, 16)] : List (Nat × Nat)), q ∈ ([(30, 16), (29, 14), (28, 13), (27, 12), (26, 9), (25, 6), (24, 5), (23, 4)] : List (Nat × Nat)) ∧ 23 ≤ q.1 ∧ q.1 ≤ 30 := by decide
  obtain ⟨m1, m2, m3⟩ := hmem q hq
  rw [rr, b8.2.2.2.2.2 q m1, hc q.1 m2 m3]
theorem S_X0_init {K : zSt → Prop} (hK : K (zsi σ 14 0 0 0)) : zCv false (d + 1) 0 0 M_X0_init [.inr (.inr (14, 0))] σ K :=
  zC_intro pl_X0 (Nat.le_of_ble_eq_true rfl) (T_X0_init_0 ⟨rfl, hK⟩)
end zIa
