/-! from the law's entry to its loop -/
section zL0s
variable {d kc ks : Nat} {σ τ υ : zSt} {Q : Option zV → zSt → Prop}
theorem zCv.x {ph : Bool} {d kc ks : Nat} {M : zMth} {As : List zV} {σ : zSt} {K : zSt → Prop} (h : zCv ph d kc ks M As σ (fun σ' => zX σ σ' → K σ')) : zCv ph d kc ks M As σ K := zC.mono (zC.X h) (fun _ _ ⟨⟨e, q⟩, hx⟩ => ⟨e, q hx⟩)
def zB0 : zSh := (fun _ => -1, fun _ => 0, fun _ _ => 0)
def zH0 : zHo := (fun _ => -9, fun _ _ => 0)
def zI0 : Nat → Bool × zAb := fun _ => (false, zA00)
theorem zJ_start (hX : zXT τ) (c : zCld σ τ) (z : ∀ a b e, 5 < a → a ≤ 53 → zcn σ a = 0 ∨ a = 6 → zgi σ a b e = 0 ∧ zgr σ a b e = (0, 0)) (hz : ∀ a, 5 < a → a ≤ 53 → zcn σ a = 0 ∨ a = 6) (on : zOnly (fun c _ _ => 54 ≤ c) τ υ) (hcn : ∀ c, zcn τ c ≤ zcn υ c) (hi : ∀ c k, 54 ≤ c → c ≤ 101 → zgi υ c 0 k = if c = 54 ∧ (k = 1 ∨ k = 2) then 8 else if (c = 62 ∧ k < 24) ∨ (c = 93 ∧ k < 8) then -9 else if c = 98 ∧ k < 4 then -1 else 0) : zJ υ := by
  obtain ⟨n, o, rd, gg, fo, l9, i14, i6a, i6b, i15, ks⟩ := c
  have no : ∀ {a : Nat}, a < 54 → ∀ b e, ¬ ((fun c _ _ => 54 ≤ c : Nat → Nat → Nat → Prop) a b e) := fun h b e q => by
    have : 54 ≤ _ := q
    omega
  have zr : ∀ a b e, a = 19 ∨ a = 20 ∨ a = 21 ∨ a = 23 ∨ a = 26 → zgi υ a b e = 0 ∧ zgr υ a b e = (0, 0) := fun a b e q => by
    obtain ⟨g1, g2⟩ := z a b e (by omega) (by omega) (hz a (by omega) (by omega))
    rw [on.i a b e (by omega), on.r a b e (by omega), o.i a b e (by omega), o.r a b e (by omega)]
    exact ⟨g1, g2⟩
  have i0 : ∀ c k, 54 ≤ c → c ≤ 101 → ¬ (c = 54 ∧ (k = 1 ∨ k = 2)) → c ≠ 62 → c ≠ 93 → c ≠ 98 → zgi υ c 0 k = 0 := fun c k h1 h2 h3 h4 h5 h6 => by
    rw [hi c k h1 h2, if_neg h3, if_neg (by omega), if_neg (by omega)]
  refine ⟨zAst, zB0, zH0, zI0, ⟨fd_wf (by omega) (by omega), fun k hk => Or.inl rfl, fun k hk => Or.inl rfl, fun k hk h => absurd h (show ¬ false = true by decide)⟩, ⟨rd.of hcn (fun c j k hb _ => on c j k (by unfold zBD at hb; omega)), ?_, hX.on on (fun c j k a b => by omega), fun k hk => ⟨?_, ?_, fun i hi => ?_⟩, fun k hk => ⟨fun _ => ?_, fun h => absurd h (show ¬ (-9 : Int) = 0 by decide), fun h => absurd h (show ¬ (-9 : Int) = 1 by decide)⟩, fun k hk => ⟨?_, fun h => absurd h (show ¬ false = true by decide)⟩, fun j k => Or.inl ?_, fun j k => Or.inl ?_⟩, ⟨⟨⟨?_, ?_, ?_, ?_, ?_, ?_, fun c hc => ?_⟩, fun t ht => absurd ht (Nat.not_lt_zero t), fun t ht => absurd ht (Nat.not_lt_zero t), fun t ht => absurd ht (Nat.not_lt_zero t)⟩, zCM.ch (fun m hm => absurd hm (Nat.not_lt_zero m)) ?_ ?_ ?_, fun k hk => ⟨?_, fun h => absurd h (show ¬ (0 : Int) ≤ -1 by decide)⟩, fun k hk => ⟨?_, fun h => absurd h (show ¬ (0 : Int) ≤ -9 by decide)⟩, fun k hk => ⟨?_, fun h => absurd h (show ¬ false = true by decide)⟩⟩, ?_, ?_, ?_⟩
  · refine zCC.fg ?_ (gg.only on (fun j k => ⟨by omega, by omega⟩)) (zKS.zero (by rw [on.l 9 0 3 (by omega)]; exact l9))
    obtain ⟨f1, f2, f3, f4, f5⟩ := fo
    exact ⟨by rw [on.i 6 0 13 (by omega)]; exact f1, by rw [on.i 10 0 5 (by omega)]; exact f2, by rw [on.i 10 0 7 (by omega)]; exact f3, by rw [on.i 11 0 3 (by omega)]; exact f4, by rw [on.i 13 0 4 (by omega)]; exact f5⟩
  · rw [on.i 15 k 0 (by omega), (i15 k hk).1]; rfl
  · rw [on.i 15 k 1 (by omega), (i15 k hk).2]; rfl
  · exact absurd hi (by show ¬ ((i : Int) < -1); omega)
  · rw [(zr 20 0 k (by omega)).2, (zr 21 0 k (by omega)).2]; exact ⟨rfl, rfl⟩
  · rw [(zr 19 0 k (by omega)).1]; rfl
  · rw [(zr 23 j k (by omega)).2]
  · rw [(zr 26 j k (by omega)).2]
  · rw [hi 54 1 (by omega) (by omega), if_pos ⟨rfl, Or.inl rfl⟩]; rfl
  · rw [hi 54 2 (by omega) (by omega), if_pos ⟨rfl, Or.inr rfl⟩]; rfl
  · rw [i0 54 4 (by omega) (by omega) (by omega) (by omega) (by omega) (by omega)]; rfl
  · rw [i0 54 12 (by omega) (by omega) (by omega) (by omega) (by omega) (by omega)]; rfl
  · rw [i0 54 19 (by omega) (by omega) (by omega) (by omega) (by omega) (by omega)]; rfl
  · rw [i0 54 23 (by omega) (by omega) (by omega) (by omega) (by omega) (by omega)]; rfl
  · rw [i0 55 c (by omega) (by omega) (by omega) (by omega) (by omega) (by omega)]; rfl
  · exact i0 54 25 (by omega) (by omega) (by omega) (by omega) (by omega) (by omega)
  · exact i0 54 26 (by omega) (by omega) (by omega) (by omega) (by omega) (by omega)
  · exact i0 54 27 (by omega) (by omega) (by omega) (by omega) (by omega) (by omega)
  · rw [hi 98 k (by omega) (by omega), if_neg (by omega), if_neg (by omega), if_pos ⟨rfl, hk⟩]; rfl
  · rw [hi 93 k (by omega) (by omega), if_neg (by omega), if_pos (Or.inr ⟨rfl, hk⟩)]; rfl
  · rw [i0 91 k (by omega) (by omega) (by omega) (by omega) (by omega) (by omega)]; rfl
  · rw [on.i 6 0 15 (by omega), i6b, i0 54 0 (by omega) (by omega) (by omega) (by omega) (by omega) (by omega)]
  · rw [on.i 14 0 0 (by omega), i14, i0 54 78 (by omega) (by omega) (by omega) (by omega) (by omega) (by omega)]
  · rw [on.i 6 0 14 (by omega), i6a, i0 54 42 (by omega) (by omega) (by omega) (by omega) (by omega) (by omega)]
theorem zct_big {c j k : Nat} (h : 54 < c) : (zct c j k).1 = 0 := by
  by_cases hc : c < 102
  · have tb : ∀ c, c < 102 → 54 < c → ∀ e ∈ zCo.getD c [], e.1 = 0 := by decide
    exact zct_no (tb c hc h)
  · refine zct_no ?_
    have : zCo.getD c [] = [] := by
      rw [List.getD_eq_getElem?_getD, List.getElem?_eq_none (by show 102 ≤ c; omega)]
      rfl
    rw [this]
    exact fun e he => absurd he List.not_mem_nil
theorem zK_start (c : zCld σ τ) (on : zOnly (fun c _ _ => 54 ≤ c) τ υ) (hcn : ∀ c, 6 ≤ c → c ≤ 53 → zcn υ c = zcn τ c) (h54 : zcn υ 54 = 1) (r : ∀ k, (zct 54 0 k).1 ≠ 0 → zgr υ 54 0 k = zct 54 0 k) : zK υ := by
  intro a j k ha hj hz hk
  by_cases h6 : a < 6
  · have tb : ∀ c, c < 6 → ∀ e ∈ zCo.getD c [], e.1 = 0 := by decide
    exact absurd (zct_no (tb a h6)) hz
  · by_cases h53 : a ≤ 53
    · rw [on.r a j k (by omega)]
      exact c.2.2.2.2.2.2.2.2.2.2 a j k (by omega) h53 (by rw [← hcn a (by omega) h53]; exact hj) hz hk
    · by_cases h : a = 54
      · subst h
        have : j = 0 := by omega
        subst this
        exact r k hz
      · exact absurd (zct_big (by omega)) hz
theorem L_law_start (hZ : zZ0 σ) (h0 : ∀ c, 6 ≤ c → c ≤ 101 → zcn σ c = 0) (hX : zXT σ) (hQ : ∀ τ, zK τ → zJ τ → zsc τ = zsc σ → (∀ k, zgi τ 1 0 k = zgi σ 1 0 k) → zE true (d + 16) kc ks M_L_law 18 [some (.inr (.inr (1, 0))), some (.inr (.inr (6, 0))), some (.inr (.inr (54, 0))), some (.inl 0)] [] τ Q) : zE false (d + 16) (1 + (335 + (1 + (47 + kc)))) (16 + (78329 + (83 + (25099 + ks)))) M_L_law 0 [some (.inr (.inr (1, 0))), none, none, none] [] σ Q := by
  refine T_L_law_0 (k3 := 335) (m3 := 78329) (k1 := 47) (m1 := 25099) ?_
  rw [h0 6 (by omega) (by omega)]
  have z6 : zZ0 (znew σ 6) := hZ.new (by decide)
  have c6 : ∀ c, 7 ≤ c → c ≤ 101 → zcn (znew σ 6) c = 0 := fun c h1 h2 => by rw [zcn_new, if_neg (by omega)]; exact h0 c (by omega) h2
  refine zCv.x (S_X11_init (d := d + 10) z6 (by rw [zcn_new, if_pos rfl, h0 6 (by omega) (by omega)]) (fun c h1 h2 => c6 c h1 (by omega)) (fun τ z c hx1 => ?_))
  have t54 : ∀ c, 54 ≤ c → c ≤ 101 → zcn τ c = 0 := fun a h1 h2 => by rw [c.1.2 a (by omega)]; exact c6 a (by omega) h2
  rw [t54 54 (by omega) (by omega)]
  refine zCv.x (S_X12_init (d := d + 14) (z.new (by decide)) (by rw [zcn_new, if_pos rfl, t54 54 (by omega) (by omega)]) (fun a h1 h2 => by rw [zcn_new, if_neg (by omega)]; exact t54 a (by omega) h2) (fun k => by rw [z.gi (by decide)]; exact (z 54 0 k (by omega) (by rw [t54 54 (by omega) (by omega)]; exact Nat.le_refl _)).1) (fun υ zu on cn rf gi hx2 => ?_))
  have on2 : zOnly (fun c _ _ => 54 ≤ c) τ υ := (zZ0.on z (by decide)).tr on
  have cs : ∀ a, 6 ≤ a → a ≤ 53 → zcn υ a = zcn τ a := fun a h1 h2 => by rw [cn, if_neg (by omega), zcn_new, if_neg (by omega)]
  refine (hQ υ (zK_start c on2 cs (by rw [cn, if_neg (by omega), zcn_new, if_pos rfl, t54 54 (by omega) (by omega)]) rf) (zJ_start (σ := znew σ 6) ?_ c (fun a b e h1 h2 h3 => ?_) (fun a h1 h2 => ?_) on2 (fun a => ?_) gi) ?_ (fun k => ?_)).phase ?_
  · exact (hX.on (zZ0.on (M := fun _ _ _ => False) hZ (by decide)) (fun _ _ _ _ _ q => q)).on c.2.1 (fun a b e h1 h2 => by omega)
  · rw [hZ.gi (by decide), hZ.gr (by decide)]
    obtain ⟨g1, _, g3⟩ := hZ a b e h1 (by rw [h0 a (by omega) (by omega)]; exact Nat.zero_le _)
    exact ⟨g1, g3⟩
  · by_cases e : a = 6
    · exact Or.inr e
    · exact Or.inl (c6 a (by omega) (by omega))
  · exact Nat.le_trans ((znew_X (σ := τ) (c := 54)).cn a) (hx2.cn a)
  · rw [hx2.2, (znew_X (σ := τ) (c := 54)).2, hx1.2, (znew_X (σ := σ) (c := 6)).2]
  · rw [on2.i 1 0 k (by omega), c.2.1.i 1 0 k (by omega), hZ.gi (by decide)]
  · exact zK_start c on2 cs (by rw [cn, if_neg (by omega), zcn_new, if_pos rfl, t54 54 (by omega) (by omega)]) rf
end zL0s
