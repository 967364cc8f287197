/-! the class is made: printed by wip/whole/mk11.py -/
def zNC (N : List Nat) (σ τ : zSt) : Prop := (∀ c, 6 ≤ c → c ≤ 53 → zcn τ c = N.getD (c - 6) 0) ∧ ∀ c, (c < 6 ∨ 53 < c) → zcn τ c = zcn σ c
def nc0 : List Nat := [1, 0, 0, 0, 0, 0, 0, 0, 0, 0, 0, 0, 0, 0, 0, 0, 0, 0, 0, 0, 0, 0, 0, 0, 0, 0, 0, 0, 0, 0, 0, 0, 0, 0, 0, 0, 0, 0, 0, 0, 0, 0, 0, 0, 0, 0, 0, 0]
def nc1 : List Nat := [1, 1, 0, 0, 0, 0, 0, 0, 0, 0, 0, 0, 0, 0, 0, 0, 0, 1, 1, 1, 1, 1, 1, 1, 1, 0, 0, 0, 0, 0, 0, 0, 0, 0, 0, 0, 0, 0, 0, 0, 0, 0, 0, 0, 0, 0, 0, 0]
def nc2 : List Nat := [1, 1, 1, 0, 0, 0, 0, 0, 0, 0, 0, 0, 0, 0, 0, 0, 0, 1, 1, 1, 1, 1, 1, 1, 1, 1, 99, 1, 4, 0, 0, 0, 0, 0, 0, 0, 0, 0, 0, 0, 0, 0, 0, 0, 0, 0, 0, 0]
def nc3 : List Nat := [1, 1, 1, 1, 0, 0, 0, 0, 0, 0, 0, 0, 0, 0, 0, 0, 0, 1, 1, 1, 1, 1, 1, 1, 1, 1, 99, 1, 4, 1, 60, 0, 0, 0, 0, 0, 0, 0, 0, 0, 0, 0, 0, 0, 0, 0, 0, 0]
def nc4 : List Nat := [1, 1, 1, 1, 1, 0, 0, 0, 0, 0, 0, 0, 0, 0, 0, 0, 0, 1, 1, 1, 1, 1, 1, 1, 1, 1, 99, 1, 4, 1, 60, 1, 1, 1, 0, 0, 0, 0, 0, 0, 0, 0, 0, 0, 0, 0, 0, 0]
def nc5 : List Nat := [1, 1, 1, 1, 1, 1, 0, 0, 0, 0, 0, 0, 0, 0, 0, 0, 0, 1, 1, 1, 1, 1, 1, 1, 1, 1, 99, 1, 4, 1, 60, 1, 1, 1, 1, 1, 1, 1, 81, 1, 1, 9, 1, 1, 0, 0, 0, 0]
def nc6 : List Nat := [1, 1, 1, 1, 1, 1, 1, 0, 0, 0, 0, 0, 0, 0, 0, 0, 0, 1, 1, 1, 1, 1, 1, 1, 1, 1, 99, 1, 4, 1, 60, 1, 1, 1, 1, 1, 1, 1, 81, 1, 1, 9, 1, 1, 1, 0, 0, 0]
def nc7 : List Nat := [1, 1, 1, 1, 1, 1, 1, 1, 0, 0, 0, 0, 0, 0, 0, 0, 0, 1, 1, 1, 1, 1, 1, 1, 1, 1, 99, 1, 4, 1, 60, 1, 1, 1, 1, 1, 1, 1, 81, 1, 1, 9, 1, 1, 1, 1, 8, 0]
def nc8 : List Nat := [1, 1, 1, 1, 1, 1, 1, 1, 1, 0, 0, 0, 0, 0, 0, 0, 0, 1, 1, 1, 1, 1, 1, 1, 1, 1, 99, 1, 4, 1, 60, 1, 1, 1, 1, 1, 1, 1, 81, 1, 1, 9, 1, 1, 1, 1, 8, 0]
def nc9 : List Nat := [1, 1, 1, 1, 1, 1, 1, 1, 1, 0, 0, 0, 1, 0, 0, 0, 0, 1, 1, 1, 1, 1, 1, 1, 1, 1, 99, 1, 4, 1, 60, 1, 1, 1, 1, 1, 1, 1, 81, 1, 1, 9, 1, 1, 1, 1, 8, 0]
def nc10 : List Nat := [1, 1, 1, 1, 1, 1, 1, 1, 1, 0, 0, 0, 1, 1, 0, 0, 0, 1, 1, 1, 1, 1, 1, 1, 1, 1, 99, 1, 4, 1, 60, 1, 1, 1, 1, 1, 1, 1, 81, 1, 1, 9, 1, 1, 1, 1, 8, 0]
def nc11 : List Nat := [1, 1, 1, 1, 1, 1, 1, 1, 1, 0, 0, 0, 1, 1, 1, 0, 0, 1, 1, 1, 1, 1, 1, 1, 1, 1, 99, 1, 4, 1, 60, 1, 1, 1, 1, 1, 1, 1, 81, 1, 1, 9, 1, 1, 1, 1, 8, 0]
def nc12 : List Nat := [1, 1, 1, 1, 1, 1, 1, 1, 1, 0, 0, 0, 1, 1, 1, 1, 0, 1, 1, 1, 1, 1, 1, 1, 1, 1, 99, 1, 4, 1, 60, 1, 1, 1, 1, 1, 1, 1, 81, 1, 1, 9, 1, 1, 1, 1, 8, 0]
def nc13 : List Nat := [1, 1, 1, 1, 1, 1, 1, 1, 1, 0, 0, 0, 1, 1, 1, 1, 1, 1, 1, 1, 1, 1, 1, 1, 1, 1, 99, 1, 4, 1, 60, 1, 1, 1, 1, 1, 1, 1, 81, 1, 1, 9, 1, 1, 1, 1, 8, 0]
def nc14 : List Nat := [1, 2, 1, 1, 1, 1, 1, 1, 1, 0, 0, 0, 1, 1, 1, 1, 1, 2, 2, 2, 2, 2, 2, 2, 2, 1, 99, 1, 4, 1, 60, 1, 1, 1, 1, 1, 1, 1, 81, 1, 1, 9, 1, 1, 1, 1, 8, 0]
def nc15 : List Nat := [1, 3, 1, 1, 1, 1, 1, 1, 1, 0, 0, 0, 1, 1, 1, 1, 1, 3, 3, 3, 3, 3, 3, 3, 3, 1, 99, 1, 4, 1, 60, 1, 1, 1, 1, 1, 1, 1, 81, 1, 1, 9, 1, 1, 1, 1, 8, 0]
def nc16 : List Nat := [1, 3, 1, 1, 1, 1, 1, 1, 1, 1, 0, 0, 1, 1, 1, 1, 1, 3, 3, 3, 3, 3, 3, 3, 3, 1, 99, 1, 4, 1, 60, 1, 1, 1, 1, 1, 1, 1, 81, 1, 1, 9, 1, 1, 1, 1, 8, 1]
def nc17 : List Nat := [1, 3, 1, 1, 1, 1, 1, 1, 1, 2, 0, 0, 1, 1, 1, 1, 1, 3, 3, 3, 3, 3, 3, 3, 3, 1, 99, 1, 4, 1, 60, 1, 1, 1, 1, 1, 1, 1, 81, 1, 1, 9, 1, 1, 1, 1, 8, 2]
def nc18 : List Nat := [1, 3, 1, 1, 1, 1, 1, 1, 1, 3, 0, 0, 1, 1, 1, 1, 1, 3, 3, 3, 3, 3, 3, 3, 3, 1, 99, 1, 4, 1, 60, 1, 1, 1, 1, 1, 1, 1, 81, 1, 1, 9, 1, 1, 1, 1, 8, 3]
def nc19 : List Nat := [1, 3, 1, 1, 1, 1, 1, 1, 1, 4, 0, 0, 1, 1, 1, 1, 1, 3, 3, 3, 3, 3, 3, 3, 3, 1, 99, 1, 4, 1, 60, 1, 1, 1, 1, 1, 1, 1, 81, 1, 1, 9, 1, 1, 1, 1, 8, 4]
section zIb
variable {d : Nat} {σ : zSt}
theorem P11_0 {Q : Option zV → zSt → Prop} (z0 : zZ0 σ) (n0 : zNC nc0 σ σ) (l0 : ∀ q ∈ ([] : List (Nat × (Nat × Nat))), zgr σ 6 0 q.1 = q.2) (h : ∀ τ, zZ0 τ → zNC nc1 σ τ → zOnly (fun a b e => (a = 7 ∧ b = 0) ∨ (a = 6 ∧ b = 0 ∧ e = 0)) σ τ → (∀ q ∈ ([(0, (7, 0))] : List (Nat × (Nat × Nat))), zgr τ 6 0 q.1 = q.2) → (∀ q ∈ ([(23, 4), (24, 5), (25, 6), (26, 9), (27, 12), (28, 13), (29, 14), (30, 16)] : List (Nat × Nat)), zgr τ 7 0 q.2 = (q.1, 0)) → (zRD zAst τ 0) → zE false (d + 5) 326 78147 M_X11_init 15 [some (.inr (.inr (6, 0))), none] [] τ Q) : zE false (d + 5) 335 78329 M_X11_init 0 [some (.inr (.inr (6, 0))), none] [] σ Q := by
  refine T_X11_init_0 (k1 := 8) (m1 := 165) (kc := 326) (ks := 78147) ?_
  rw [show zcn σ 7 = 0 from n0.1 7 (by decide) (by decide)]
  refine S_X1_init (z0.new (by decide)) (by rw [zcn_new, if_pos rfl]; omega) (fun c h1 h2 => by
    rw [zcn_new, if_neg (by omega), n0.1 c (by omega) (by omega)]
    have : ∀ c, c < 31 → 23 ≤ c → nc0.getD (c - 6) 0 = 0 := by decide
    exact this c (by omega) h1) (fun s1 zs os cs rs rd => ?_)
  have z1 : zZ0 (zsr s1 6 0 0 (7, 0)) := zs.sr (by show 0 < zcn s1 6; rw [cs, if_neg (by omega), zcn_new, if_neg (by omega), n0.1 6 (by decide) (by decide)]; decide)
  have n1 : zNC nc1 σ (zsr s1 6 0 0 (7, 0)) := ⟨fun c h1 h2 => by
    rw [zcn_sr, cs c]
    by_cases e : 23 ≤ c ∧ c ≤ 30
    · rw [if_pos e]
      have : ∀ c, c < 31 → 23 ≤ c → 0 + 1 = nc1.getD (c - 6) 0 := by decide
      exact this c (by omega) e.1
    · rw [if_neg e, zcn_new]
      by_cases e7 : c = 7
      · subst e7; rw [if_pos rfl, n0.1 7 (by decide) (by decide)]; rfl
      · rw [if_neg e7, n0.1 c h1 h2]
        have : ∀ c, c < 54 → ¬ (23 ≤ c ∧ c ≤ 30) → c ≠ 7 → nc0.getD (c - 6) 0 = nc1.getD (c - 6) 0 := by decide
        exact this c (by omega) e e7, fun c h => by rw [zcn_sr, cs, if_neg (by omega), zcn_new, if_neg (by omega), n0.2 c h]⟩
  have o1 : zOnly (fun a b e => (a = 7 ∧ b = 0) ∨ (a = 6 ∧ b = 0 ∧ e = 0)) σ (zsr s1 6 0 0 (7, 0)) := (z0.on (c := 7) (by decide)).tr ((os.mono (fun a b e q => by omega)).tr (zOnly.sr (by omega)))
  have l1 : ∀ q ∈ ([(0, (7, 0))] : List (Nat × (Nat × Nat))), zgr (zsr s1 6 0 0 (7, 0)) 6 0 q.1 = q.2 := fun q hq => by
    rcases List.mem_cons.mp hq with rfl | hq
    · rw [zgr_sr, if_pos ⟨rfl, rfl, rfl⟩]
    · have hne : ∀ q ∈ ([] : List (Nat × (Nat × Nat))), q.1 ≠ 0 := by decide
      rw [zgr_sr, if_neg (fun x => hne q hq x.2.2), os.r 6 0 q.1 (by omega), z0.gr (by decide)]
      exact l0 q hq
  have rr7_0 : ∀ q ∈ ([(23, 4), (24, 5), (25, 6), (26, 9), (27, 12), (28, 13), (29, 14), (30, 16)] : List (Nat × Nat)), zgr (zsr s1 6 0 0 (7, 0)) 7 0 q.2 = (q.1, 0) := fun q hq => rs q hq
  have rd1 : zRD zAst (zsr s1 6 0 0 (7, 0)) 0 := rd.of (fun c => Nat.le_refl _) (fun c j k hb _ => ⟨rfl, rfl, by rw [zgr_sr, if_neg (fun q => by unfold zBD at hb; omega)]⟩)
  exact h _ z1 n1 o1 l1 rr7_0 rd1
theorem P11_1 {t1 : zSt} {Q : Option zV → zSt → Prop} (z1 : zZ0 t1) (n1 : zNC nc1 σ t1) (l1 : ∀ q ∈ ([(0, (7, 0))] : List (Nat × (Nat × Nat))), zgr t1 6 0 q.1 = q.2) (h : ∀ τ, zZ0 τ → zNC nc2 σ τ → zOnly (fun a b e => (a = 8 ∧ b = 0) ∨ (31 ≤ a ∧ a ≤ 34) ∨ (a = 6 ∧ b = 0 ∧ e = 1)) t1 τ → (∀ q ∈ ([(1, (8, 0)), (0, (7, 0))] : List (Nat × (Nat × Nat))), zgr τ 6 0 q.1 = q.2) → (zgr τ 8 0 0 = (31, 0)) → (zgr τ 8 0 1 = (33, 0)) → (∀ e, e < 99 → zgr τ 31 0 e = (32, e)) → (∀ e, e < 4 → zgr τ 33 0 e = (34, e)) → (zGr τ) → zE false (d + 5) 220 71450 M_X11_init 26 [some (.inr (.inr (6, 0))), none] [] τ Q) : zE false (d + 5) 326 78147 M_X11_init 15 [some (.inr (.inr (6, 0))), none] [] t1 Q := by
  refine T_X11_init_15 (k1 := 105) (m1 := 6695) (kc := 220) (ks := 71450) ?_
  rw [show zcn t1 8 = 0 from n1.1 8 (by decide) (by decide)]
  refine S_X3_init (z1.new (by decide)) (by rw [zcn_new, if_pos rfl]; omega) (by rw [zcn_new, if_neg (by omega)]; exact n1.1 31 (by decide) (by decide)) (by rw [zcn_new, if_neg (by omega)]; exact n1.1 32 (by decide) (by decide)) (by rw [zcn_new, if_neg (by omega)]; exact n1.1 33 (by decide) (by decide)) (by rw [zcn_new, if_neg (by omega)]; exact n1.1 34 (by decide) (by decide)) (fun s2 zs os cs c31 c32 c33 c34 r80 r81 r31 r33 gg => ?_)
  have z2 : zZ0 (zsr s2 6 0 1 (8, 0)) := zs.sr (by show 0 < zcn s2 6; rw [cs 6 (by omega) (by omega) (by omega) (by omega), zcn_new, if_neg (by omega), n1.1 6 (by decide) (by decide)]; decide)
  have n2 : zNC nc2 σ (zsr s2 6 0 1 (8, 0)) := ⟨fun c h1 h2 => by
    by_cases e31 : c = 31
    · subst e31; exact c31
    by_cases e32 : c = 32
    · subst e32; exact c32
    by_cases e33 : c = 33
    · subst e33; exact c33
    by_cases e34 : c = 34
    · subst e34; exact c34
    rw [zcn_sr, cs c e31 e32 e33 e34]
    rw [zcn_new]
    by_cases e8 : c = 8
    · subst e8; rw [if_pos rfl, n1.1 8 (by decide) (by decide)]; rfl
    rw [if_neg e8, n1.1 c h1 h2]
    have : ∀ c, c < 54 → c ∉ ([31, 32, 33, 34, 8] : List Nat) → nc1.getD (c - 6) 0 = nc2.getD (c - 6) 0 := by decide
    exact this c (by omega) (by simp [e31, e32, e33, e34, e8]), fun c h => by
    rw [zcn_sr, cs c (by omega) (by omega) (by omega) (by omega), zcn_new, if_neg (by omega), n1.2 c h]⟩
  have o2 : zOnly (fun a b e => (a = 8 ∧ b = 0) ∨ (31 ≤ a ∧ a ≤ 34) ∨ (a = 6 ∧ b = 0 ∧ e = 1)) t1 (zsr s2 6 0 1 (8, 0)) := (z1.on (c := 8) (by decide)).tr ((os.mono (fun a b e q => by omega)).tr (zOnly.sr (by omega)))
  have l2 : ∀ q ∈ ([(1, (8, 0)), (0, (7, 0))] : List (Nat × (Nat × Nat))), zgr (zsr s2 6 0 1 (8, 0)) 6 0 q.1 = q.2 := fun q hq => by
    rcases List.mem_cons.mp hq with rfl | hq
    · rw [zgr_sr, if_pos ⟨rfl, rfl, rfl⟩]
    · have hne : ∀ q ∈ ([(0, (7, 0))] : List (Nat × (Nat × Nat))), q.1 ≠ 1 := by decide
      rw [zgr_sr, if_neg (fun x => hne q hq x.2.2), os.r 6 0 q.1 (by omega), z1.gr (by decide)]
      exact l1 q hq
  have g80 : zgr (zsr s2 6 0 1 (8, 0)) 8 0 0 = (31, 0) := r80
  have g81 : zgr (zsr s2 6 0 1 (8, 0)) 8 0 1 = (33, 0) := r81
  have g31 : ∀ e, e < 99 → zgr (zsr s2 6 0 1 (8, 0)) 31 0 e = (32, e) := r31
  have g33 : ∀ e, e < 4 → zgr (zsr s2 6 0 1 (8, 0)) 33 0 e = (34, e) := r33
  have gG : zGr (zsr s2 6 0 1 (8, 0)) := gg.only (M := fun a b e => a = 6 ∧ b = 0 ∧ e = 1) (zOnly.sr ⟨rfl, rfl, rfl⟩) (fun j k => ⟨by omega, by omega⟩)
  exact h _ z2 n2 o2 l2 g80 g81 g31 g33 gG
theorem P11_2 {t2 : zSt} {Q : Option zV → zSt → Prop} (z2 : zZ0 t2) (n2 : zNC nc2 σ t2) (l2 : ∀ q ∈ ([(1, (8, 0)), (0, (7, 0))] : List (Nat × (Nat × Nat))), zgr t2 6 0 q.1 = q.2) (h : ∀ τ, zZ0 τ → zNC nc3 σ τ → zOnly (fun a b e => (a = 9 ∧ b = 0) ∨ a = 35 ∨ (a = 6 ∧ b = 0 ∧ e = 2)) t2 τ → (∀ q ∈ ([(2, (9, 0)), (1, (8, 0)), (0, (7, 0))] : List (Nat × (Nat × Nat))), zgr τ 6 0 q.1 = q.2) → (zgr τ 9 0 2 = (35, 0)) → (zgr τ 9 0 0 = (7, 0)) → (zgr τ 9 0 1 = (8, 0)) → (∀ e, e < 60 → zgr τ 35 0 e = (36, e)) → (zgl τ 9 0 3 = 0) → zE false (d + 5) 158 67546 M_X11_init 45 [some (.inr (.inr (6, 0))), none] [] τ Q) : zE false (d + 5) 220 71450 M_X11_init 26 [some (.inr (.inr (6, 0))), none] [] t2 Q := by
  refine T_X11_init_26 (k1 := 61) (m1 := 3900) (kc := 158) (ks := 67546) ⟨(by rw [z2.gr (by decide)]; exact l2 (0, (7, 0)) (by decide)), (by rw [z2.gr (by decide)]; exact l2 (1, (8, 0)) (by decide)), ?_⟩
  rw [show zcn t2 9 = 0 from n2.1 9 (by decide) (by decide)]
  refine S_X4_init (z2.new (by decide)) (by rw [zcn_new, if_pos rfl]; omega) (by rw [zcn_new, if_neg (by omega)]; exact n2.1 35 (by decide) (by decide)) (by rw [zcn_new, if_neg (by omega)]; exact n2.1 36 (by decide) (by decide)) (fun s3 zs os cs c35 c36 f9_2 f9_0 f9_1 w35 j9_3 => ?_)
  have z3 : zZ0 (zsr s3 6 0 2 (9, 0)) := zs.sr (by show 0 < zcn s3 6; rw [cs 6 (by omega) (by omega), zcn_new, if_neg (by omega), n2.1 6 (by decide) (by decide)]; decide)
  have n3 : zNC nc3 σ (zsr s3 6 0 2 (9, 0)) := ⟨fun c h1 h2 => by
    by_cases e35 : c = 35
    · subst e35; exact c35
    by_cases e36 : c = 36
    · subst e36; exact c36
    rw [zcn_sr, cs c e35 e36]
    rw [zcn_new]
    by_cases e9 : c = 9
    · subst e9; rw [if_pos rfl, n2.1 9 (by decide) (by decide)]; rfl
    rw [if_neg e9, n2.1 c h1 h2]
    have : ∀ c, c < 54 → c ∉ ([35, 36, 9] : List Nat) → nc2.getD (c - 6) 0 = nc3.getD (c - 6) 0 := by decide
    exact this c (by omega) (by simp [e35, e36, e9]), fun c h => by
    rw [zcn_sr, cs c (by omega) (by omega), zcn_new, if_neg (by omega), n2.2 c h]⟩
  have o3 : zOnly (fun a b e => (a = 9 ∧ b = 0) ∨ a = 35 ∨ (a = 6 ∧ b = 0 ∧ e = 2)) t2 (zsr s3 6 0 2 (9, 0)) := (z2.on (c := 9) (by decide)).tr ((os.mono (fun a b e q => by omega)).tr (zOnly.sr (by omega)))
  have l3 : ∀ q ∈ ([(2, (9, 0)), (1, (8, 0)), (0, (7, 0))] : List (Nat × (Nat × Nat))), zgr (zsr s3 6 0 2 (9, 0)) 6 0 q.1 = q.2 := fun q hq => by
    rcases List.mem_cons.mp hq with rfl | hq
    · rw [zgr_sr, if_pos ⟨rfl, rfl, rfl⟩]
    · have hne : ∀ q ∈ ([(1, (8, 0)), (0, (7, 0))] : List (Nat × (Nat × Nat))), q.1 ≠ 2 := by decide
      rw [zgr_sr, if_neg (fun x => hne q hq x.2.2), os.r 6 0 q.1 (by omega), z2.gr (by decide)]
      exact l2 q hq
  have g9_2 : zgr (zsr s3 6 0 2 (9, 0)) 9 0 2 = (35, 0) := f9_2
  have g9_0 : zgr (zsr s3 6 0 2 (9, 0)) 9 0 0 = (7, 0) := f9_0
  have g9_1 : zgr (zsr s3 6 0 2 (9, 0)) 9 0 1 = (8, 0) := f9_1
  have gw35 : ∀ e, e < 60 → zgr (zsr s3 6 0 2 (9, 0)) 35 0 e = (36, e) := w35
  have gj9_3 : zgl (zsr s3 6 0 2 (9, 0)) 9 0 3 = 0 := j9_3
  exact h _ z3 n3 o3 l3 g9_2 g9_0 g9_1 gw35 gj9_3
theorem P11_3 {t3 : zSt} {Q : Option zV → zSt → Prop} (z3 : zZ0 t3) (n3 : zNC nc3 σ t3) (l3 : ∀ q ∈ ([(2, (9, 0)), (1, (8, 0)), (0, (7, 0))] : List (Nat × (Nat × Nat))), zgr t3 6 0 q.1 = q.2) (h : ∀ τ, zZ0 τ → zNC nc4 σ τ → zOnly (fun a b e => (a = 10 ∧ b = 0) ∨ (a = 6 ∧ b = 0 ∧ e = 3)) t3 τ → (∀ q ∈ ([(3, (10, 0)), (2, (9, 0)), (1, (8, 0)), (0, (7, 0))] : List (Nat × (Nat × Nat))), zgr τ 6 0 q.1 = q.2) → (zgr τ 10 0 2 = (37, 0)) → (zgr τ 10 0 3 = (38, 0)) → (zgr τ 10 0 10 = (39, 0)) → (zgr τ 10 0 0 = (7, 0)) → (zgr τ 10 0 1 = (9, 0)) → (zgi τ 10 0 5 = 0) → (zgi τ 10 0 7 = 0) → zE false (d + 5) 154 67463 M_X11_init 64 [some (.inr (.inr (6, 0))), none] [] τ Q) : zE false (d + 5) 158 67546 M_X11_init 45 [some (.inr (.inr (6, 0))), none] [] t3 Q := by
  refine T_X11_init_45 (k1 := 3) (m1 := 72) (kc := 154) (ks := 67463) ⟨(by rw [z3.gr (by decide)]; exact l3 (0, (7, 0)) (by decide)), (by rw [z3.gr (by decide)]; exact l3 (2, (9, 0)) (by decide)), ?_⟩
  rw [show zcn t3 10 = 0 from n3.1 10 (by decide) (by decide)]
  refine S_X6_init (z3.new (by decide)) (by rw [zcn_new, if_pos rfl]; omega) (by rw [zcn_new, if_neg (by omega)]; exact n3.1 37 (by decide) (by decide)) (by rw [zcn_new, if_neg (by omega)]; exact n3.1 38 (by decide) (by decide)) (by rw [zcn_new, if_neg (by omega)]; exact n3.1 39 (by decide) (by decide)) (fun s4 zs os cs c37 c38 c39 f10_2 f10_3 f10_10 f10_0 f10_1 i10_5 i10_7 => ?_)
  have z4 : zZ0 (zsr s4 6 0 3 (10, 0)) := zs.sr (by show 0 < zcn s4 6; rw [cs 6 (by omega) (by omega) (by omega), zcn_new, if_neg (by omega), n3.1 6 (by decide) (by decide)]; decide)
  have n4 : zNC nc4 σ (zsr s4 6 0 3 (10, 0)) := ⟨fun c h1 h2 => by
    by_cases e37 : c = 37
    · subst e37; exact c37
    by_cases e38 : c = 38
    · subst e38; exact c38
    by_cases e39 : c = 39
    · subst e39; exact c39
    rw [zcn_sr, cs c e37 e38 e39]
    rw [zcn_new]
    by_cases e10 : c = 10
    · subst e10; rw [if_pos rfl, n3.1 10 (by decide) (by decide)]; rfl
    rw [if_neg e10, n3.1 c h1 h2]
    have : ∀ c, c < 54 → c ∉ ([37, 38, 39, 10] : List Nat) → nc3.getD (c - 6) 0 = nc4.getD (c - 6) 0 := by decide
    exact this c (by omega) (by simp [e37, e38, e39, e10]), fun c h => by
    rw [zcn_sr, cs c (by omega) (by omega) (by omega), zcn_new, if_neg (by omega), n3.2 c h]⟩
  have o4 : zOnly (fun a b e => (a = 10 ∧ b = 0) ∨ (a = 6 ∧ b = 0 ∧ e = 3)) t3 (zsr s4 6 0 3 (10, 0)) := (z3.on (c := 10) (by decide)).tr ((os.mono (fun a b e q => by omega)).tr (zOnly.sr (by omega)))
  have l4 : ∀ q ∈ ([(3, (10, 0)), (2, (9, 0)), (1, (8, 0)), (0, (7, 0))] : List (Nat × (Nat × Nat))), zgr (zsr s4 6 0 3 (10, 0)) 6 0 q.1 = q.2 := fun q hq => by
    rcases List.mem_cons.mp hq with rfl | hq
    · rw [zgr_sr, if_pos ⟨rfl, rfl, rfl⟩]
    · have hne : ∀ q ∈ ([(2, (9, 0)), (1, (8, 0)), (0, (7, 0))] : List (Nat × (Nat × Nat))), q.1 ≠ 3 := by decide
      rw [zgr_sr, if_neg (fun x => hne q hq x.2.2), os.r 6 0 q.1 (by omega), z3.gr (by decide)]
      exact l3 q hq
  have g10_2 : zgr (zsr s4 6 0 3 (10, 0)) 10 0 2 = (37, 0) := f10_2
  have g10_3 : zgr (zsr s4 6 0 3 (10, 0)) 10 0 3 = (38, 0) := f10_3
  have g10_10 : zgr (zsr s4 6 0 3 (10, 0)) 10 0 10 = (39, 0) := f10_10
  have g10_0 : zgr (zsr s4 6 0 3 (10, 0)) 10 0 0 = (7, 0) := f10_0
  have g10_1 : zgr (zsr s4 6 0 3 (10, 0)) 10 0 1 = (9, 0) := f10_1
  have gi10_5 : zgi (zsr s4 6 0 3 (10, 0)) 10 0 5 = 0 := i10_5
  have gi10_7 : zgi (zsr s4 6 0 3 (10, 0)) 10 0 7 = 0 := i10_7
  exact h _ z4 n4 o4 l4 g10_2 g10_3 g10_10 g10_0 g10_1 gi10_5 gi10_7
theorem P11_4 {t4 : zSt} {Q : Option zV → zSt → Prop} (z4 : zZ0 t4) (n4 : zNC nc4 σ t4) (l4 : ∀ q ∈ ([(3, (10, 0)), (2, (9, 0)), (1, (8, 0)), (0, (7, 0))] : List (Nat × (Nat × Nat))), zgr t4 6 0 q.1 = q.2) (h : ∀ τ, zZ0 τ → zNC nc5 σ τ → zOnly (fun a b e => (a = 11 ∧ b = 0) ∨ a = 43 ∨ a = 46 ∨ (a = 6 ∧ b = 0 ∧ e = 4)) t4 τ → (∀ q ∈ ([(4, (11, 0)), (3, (10, 0)), (2, (9, 0)), (1, (8, 0)), (0, (7, 0))] : List (Nat × (Nat × Nat))), zgr τ 6 0 q.1 = q.2) → (zgr τ 11 0 5 = (40, 0)) → (zgr τ 11 0 9 = (41, 0)) → (zgr τ 11 0 10 = (42, 0)) → (zgr τ 11 0 11 = (43, 0)) → (zgr τ 11 0 13 = (45, 0)) → (zgr τ 11 0 15 = (46, 0)) → (zgr τ 11 0 17 = (48, 0)) → (zgr τ 11 0 18 = (49, 0)) → (zgr τ 11 0 0 = (7, 0)) → (zgr τ 11 0 1 = (9, 0)) → (zgr τ 11 0 2 = (10, 0)) → (∀ e, e < 81 → zgr τ 43 0 e = (44, e)) → (∀ e, e < 9 → zgr τ 46 0 e = (47, e)) → (zgi τ 11 0 3 = 0) → zE false (d + 5) 55 1465 M_X11_init 87 [some (.inr (.inr (6, 0))), none] [] τ Q) : zE false (d + 5) 154 67463 M_X11_init 64 [some (.inr (.inr (6, 0))), none] [] t4 Q := by
  refine T_X11_init_64 (k1 := 98) (m1 := 65979) (kc := 55) (ks := 1465) ⟨(by rw [z4.gr (by decide)]; exact l4 (0, (7, 0)) (by decide)), (by rw [z4.gr (by decide)]; exact l4 (2, (9, 0)) (by decide)), (by rw [z4.gr (by decide)]; exact l4 (3, (10, 0)) (by decide)), ?_⟩
  rw [show zcn t4 11 = 0 from n4.1 11 (by decide) (by decide)]
  refine S_X7_init (z4.new (by decide)) (by rw [zcn_new, if_pos rfl]; omega) (by rw [zcn_new, if_neg (by omega)]; exact n4.1 40 (by decide) (by decide)) (by rw [zcn_new, if_neg (by omega)]; exact n4.1 41 (by decide) (by decide)) (by rw [zcn_new, if_neg (by omega)]; exact n4.1 42 (by decide) (by decide)) (by rw [zcn_new, if_neg (by omega)]; exact n4.1 43 (by decide) (by decide)) (by rw [zcn_new, if_neg (by omega)]; exact n4.1 44 (by decide) (by decide)) (by rw [zcn_new, if_neg (by omega)]; exact n4.1 45 (by decide) (by decide)) (by rw [zcn_new, if_neg (by omega)]; exact n4.1 46 (by decide) (by decide)) (by rw [zcn_new, if_neg (by omega)]; exact n4.1 47 (by decide) (by decide)) (by rw [zcn_new, if_neg (by omega)]; exact n4.1 48 (by decide) (by decide)) (by rw [zcn_new, if_neg (by omega)]; exact n4.1 49 (by decide) (by decide)) (fun s5 zs os cs c40 c41 c42 c43 c44 c45 c46 c47 c48 c49 f11_5 f11_9 f11_10 f11_11 f11_13 f11_15 f11_17 f11_18 f11_0 f11_1 f11_2 w43 w46 i11_3 => ?_)
  have z5 : zZ0 (zsr s5 6 0 4 (11, 0)) := zs.sr (by show 0 < zcn s5 6; rw [cs 6 (by omega) (by omega) (by omega) (by omega) (by omega) (by omega) (by omega) (by omega) (by omega) (by omega), zcn_new, if_neg (by omega), n4.1 6 (by decide) (by decide)]; decide)
  have n5 : zNC nc5 σ (zsr s5 6 0 4 (11, 0)) := ⟨fun c h1 h2 => by
    by_cases e40 : c = 40
    · subst e40; exact c40
    by_cases e41 : c = 41
    · subst e41; exact c41
    by_cases e42 : c = 42
    · subst e42; exact c42
    by_cases e43 : c = 43
    · subst e43; exact c43
    by_cases e44 : c = 44
    · subst e44; exact c44
    by_cases e45 : c = 45
    · subst e45; exact c45
    by_cases e46 : c = 46
    · subst e46; exact c46
    by_cases e47 : c = 47
    · subst e47; exact c47
    by_cases e48 : c = 48
    · subst e48; exact c48
    by_cases e49 : c = 49
    · subst e49; exact c49
    rw [zcn_sr, cs c e40 e41 e42 e43 e44 e45 e46 e47 e48 e49]
    rw [zcn_new]
    by_cases e11 : c = 11
    · subst e11; rw [if_pos rfl, n4.1 11 (by decide) (by decide)]; rfl
    rw [if_neg e11, n4.1 c h1 h2]
    have : ∀ c, c < 54 → c ∉ ([40, 41, 42, 43, 44, 45, 46, 47, 48, 49, 11] : List Nat) → nc4.getD (c - 6) 0 = nc5.getD (c - 6) 0 := by decide
    exact this c (by omega) (by simp [e40, e41, e42, e43, e44, e45, e46, e47, e48, e49, e11]), fun c h => by
    rw [zcn_sr, cs c (by omega) (by omega) (by omega) (by omega) (by omega) (by omega) (by omega) (by omega) (by omega) (by omega), zcn_new, if_neg (by omega), n4.2 c h]⟩
  have o5 : zOnly (fun a b e => (a = 11 ∧ b = 0) ∨ a = 43 ∨ a = 46 ∨ (a = 6 ∧ b = 0 ∧ e = 4)) t4 (zsr s5 6 0 4 (11, 0)) := (z4.on (c := 11) (by decide)).tr ((os.mono (fun a b e q => by omega)).tr (zOnly.sr (by omega)))
  have l5 : ∀ q ∈ ([(4, (11, 0)), (3, (10, 0)), (2, (9, 0)), (1, (8, 0)), (0, (7, 0))] : List (Nat × (Nat × Nat))), zgr (zsr s5 6 0 4 (11, 0)) 6 0 q.1 = q.2 := fun q hq => by
    rcases List.mem_cons.mp hq with rfl | hq
    · rw [zgr_sr, if_pos ⟨rfl, rfl, rfl⟩]
    · have hne : ∀ q ∈ ([(3, (10, 0)), (2, (9, 0)), (1, (8, 0)), (0, (7, 0))] : List (Nat × (Nat × Nat))), q.1 ≠ 4 := by decide
      rw [zgr_sr, if_neg (fun x => hne q hq x.2.2), os.r 6 0 q.1 (by omega), z4.gr (by decide)]
      exact l4 q hq
  have g11_5 : zgr (zsr s5 6 0 4 (11, 0)) 11 0 5 = (40, 0) := f11_5
  have g11_9 : zgr (zsr s5 6 0 4 (11, 0)) 11 0 9 = (41, 0) := f11_9
  have g11_10 : zgr (zsr s5 6 0 4 (11, 0)) 11 0 10 = (42, 0) := f11_10
  have g11_11 : zgr (zsr s5 6 0 4 (11, 0)) 11 0 11 = (43, 0) := f11_11
  have g11_13 : zgr (zsr s5 6 0 4 (11, 0)) 11 0 13 = (45, 0) := f11_13
  have g11_15 : zgr (zsr s5 6 0 4 (11, 0)) 11 0 15 = (46, 0) := f11_15
  have g11_17 : zgr (zsr s5 6 0 4 (11, 0)) 11 0 17 = (48, 0) := f11_17
  have g11_18 : zgr (zsr s5 6 0 4 (11, 0)) 11 0 18 = (49, 0) := f11_18
  have g11_0 : zgr (zsr s5 6 0 4 (11, 0)) 11 0 0 = (7, 0) := f11_0
  have g11_1 : zgr (zsr s5 6 0 4 (11, 0)) 11 0 1 = (9, 0) := f11_1
  have g11_2 : zgr (zsr s5 6 0 4 (11, 0)) 11 0 2 = (10, 0) := f11_2
  have gw43 : ∀ e, e < 81 → zgr (zsr s5 6 0 4 (11, 0)) 43 0 e = (44, e) := w43
  have gw46 : ∀ e, e < 9 → zgr (zsr s5 6 0 4 (11, 0)) 46 0 e = (47, e) := w46
  have gi11_3 : zgi (zsr s5 6 0 4 (11, 0)) 11 0 3 = 0 := i11_3
  exact h _ z5 n5 o5 l5 g11_5 g11_9 g11_10 g11_11 g11_13 g11_15 g11_17 g11_18 g11_0 g11_1 g11_2 gw43 gw46 gi11_3
theorem P11_5 {t5 : zSt} {Q : Option zV → zSt → Prop} (z5 : zZ0 t5) (n5 : zNC nc5 σ t5) (l5 : ∀ q ∈ ([(4, (11, 0)), (3, (10, 0)), (2, (9, 0)), (1, (8, 0)), (0, (7, 0))] : List (Nat × (Nat × Nat))), zgr t5 6 0 q.1 = q.2) (h : ∀ τ, zZ0 τ → zNC nc6 σ τ → zOnly (fun a b e => (a = 12 ∧ b = 0) ∨ (a = 6 ∧ b = 0 ∧ e = 5)) t5 τ → (∀ q ∈ ([(5, (12, 0)), (4, (11, 0)), (3, (10, 0)), (2, (9, 0)), (1, (8, 0)), (0, (7, 0))] : List (Nat × (Nat × Nat))), zgr τ 6 0 q.1 = q.2) → (zgr τ 12 0 2 = (50, 0)) → (zgr τ 12 0 0 = (7, 0)) → (zgr τ 12 0 1 = (9, 0)) → zE false (d + 5) 53 1431 M_X11_init 106 [some (.inr (.inr (6, 0))), none] [] τ Q) : zE false (d + 5) 55 1465 M_X11_init 87 [some (.inr (.inr (6, 0))), none] [] t5 Q := by
  refine T_X11_init_87 (k1 := 1) (m1 := 24) (kc := 53) (ks := 1431) ⟨(by rw [z5.gr (by decide)]; exact l5 (0, (7, 0)) (by decide)), (by rw [z5.gr (by decide)]; exact l5 (2, (9, 0)) (by decide)), ?_⟩
  rw [show zcn t5 12 = 0 from n5.1 12 (by decide) (by decide)]
  refine S_X2_init (z5.new (by decide)) (by rw [zcn_new, if_pos rfl]; omega) (by rw [zcn_new, if_neg (by omega)]; exact n5.1 50 (by decide) (by decide)) (fun s6 zs os cs c50 f12_2 f12_0 f12_1 => ?_)
  have z6 : zZ0 (zsr s6 6 0 5 (12, 0)) := zs.sr (by show 0 < zcn s6 6; rw [cs 6 (by omega), zcn_new, if_neg (by omega), n5.1 6 (by decide) (by decide)]; decide)
  have n6 : zNC nc6 σ (zsr s6 6 0 5 (12, 0)) := ⟨fun c h1 h2 => by
    by_cases e50 : c = 50
    · subst e50; exact c50
    rw [zcn_sr, cs c e50]
    rw [zcn_new]
    by_cases e12 : c = 12
    · subst e12; rw [if_pos rfl, n5.1 12 (by decide) (by decide)]; rfl
    rw [if_neg e12, n5.1 c h1 h2]
    have : ∀ c, c < 54 → c ∉ ([50, 12] : List Nat) → nc5.getD (c - 6) 0 = nc6.getD (c - 6) 0 := by decide
    exact this c (by omega) (by simp [e50, e12]), fun c h => by
    rw [zcn_sr, cs c (by omega), zcn_new, if_neg (by omega), n5.2 c h]⟩
  have o6 : zOnly (fun a b e => (a = 12 ∧ b = 0) ∨ (a = 6 ∧ b = 0 ∧ e = 5)) t5 (zsr s6 6 0 5 (12, 0)) := (z5.on (c := 12) (by decide)).tr ((os.mono (fun a b e q => by omega)).tr (zOnly.sr (by omega)))
  have l6 : ∀ q ∈ ([(5, (12, 0)), (4, (11, 0)), (3, (10, 0)), (2, (9, 0)), (1, (8, 0)), (0, (7, 0))] : List (Nat × (Nat × Nat))), zgr (zsr s6 6 0 5 (12, 0)) 6 0 q.1 = q.2 := fun q hq => by
    rcases List.mem_cons.mp hq with rfl | hq
    · rw [zgr_sr, if_pos ⟨rfl, rfl, rfl⟩]
    · have hne : ∀ q ∈ ([(4, (11, 0)), (3, (10, 0)), (2, (9, 0)), (1, (8, 0)), (0, (7, 0))] : List (Nat × (Nat × Nat))), q.1 ≠ 5 := by decide
      rw [zgr_sr, if_neg (fun x => hne q hq x.2.2), os.r 6 0 q.1 (by omega), z5.gr (by decide)]
      exact l5 q hq
  have g12_2 : zgr (zsr s6 6 0 5 (12, 0)) 12 0 2 = (50, 0) := f12_2
  have g12_0 : zgr (zsr s6 6 0 5 (12, 0)) 12 0 0 = (7, 0) := f12_0
  have g12_1 : zgr (zsr s6 6 0 5 (12, 0)) 12 0 1 = (9, 0) := f12_1
  exact h _ z6 n6 o6 l6 g12_2 g12_0 g12_1
theorem P11_6 {t6 : zSt} {Q : Option zV → zSt → Prop} (z6 : zZ0 t6) (n6 : zNC nc6 σ t6) (l6 : ∀ q ∈ ([(5, (12, 0)), (4, (11, 0)), (3, (10, 0)), (2, (9, 0)), (1, (8, 0)), (0, (7, 0))] : List (Nat × (Nat × Nat))), zgr t6 6 0 q.1 = q.2) (h : ∀ τ, zZ0 τ → zNC nc7 σ τ → zOnly (fun a b e => (a = 13 ∧ b = 0) ∨ a = 51 ∨ (a = 6 ∧ b = 0 ∧ e = 6)) t6 τ → (∀ q ∈ ([(6, (13, 0)), (5, (12, 0)), (4, (11, 0)), (3, (10, 0)), (2, (9, 0)), (1, (8, 0)), (0, (7, 0))] : List (Nat × (Nat × Nat))), zgr τ 6 0 q.1 = q.2) → (zgr τ 13 0 3 = (51, 0)) → (zgr τ 13 0 0 = (7, 0)) → (zgr τ 13 0 1 = (8, 0)) → (zgr τ 13 0 2 = (10, 0)) → (∀ e, e < 8 → zgr τ 51 0 e = (52, e)) → (zgi τ 13 0 4 = (-9)) → zE false (d + 5) 43 906 M_X11_init 129 [some (.inr (.inr (6, 0))), none] [] τ Q) : zE false (d + 5) 53 1431 M_X11_init 106 [some (.inr (.inr (6, 0))), none] [] t6 Q := by
  refine T_X11_init_106 (k1 := 9) (m1 := 520) (kc := 43) (ks := 906) ⟨(by rw [z6.gr (by decide)]; exact l6 (0, (7, 0)) (by decide)), (by rw [z6.gr (by decide)]; exact l6 (1, (8, 0)) (by decide)), (by rw [z6.gr (by decide)]; exact l6 (3, (10, 0)) (by decide)), ?_⟩
  rw [show zcn t6 13 = 0 from n6.1 13 (by decide) (by decide)]
  refine S_X10_init (z6.new (by decide)) (by rw [zcn_new, if_pos rfl]; omega) (by rw [zcn_new, if_neg (by omega)]; exact n6.1 51 (by decide) (by decide)) (by rw [zcn_new, if_neg (by omega)]; exact n6.1 52 (by decide) (by decide)) (fun s7 zs os cs c51 c52 f13_3 f13_0 f13_1 f13_2 w51 i13_4 => ?_)
  have z7 : zZ0 (zsr s7 6 0 6 (13, 0)) := zs.sr (by show 0 < zcn s7 6; rw [cs 6 (by omega) (by omega), zcn_new, if_neg (by omega), n6.1 6 (by decide) (by decide)]; decide)
  have n7 : zNC nc7 σ (zsr s7 6 0 6 (13, 0)) := ⟨fun c h1 h2 => by
    by_cases e51 : c = 51
    · subst e51; exact c51
    by_cases e52 : c = 52
    · subst e52; exact c52
    rw [zcn_sr, cs c e51 e52]
    rw [zcn_new]
    by_cases e13 : c = 13
    · subst e13; rw [if_pos rfl, n6.1 13 (by decide) (by decide)]; rfl
    rw [if_neg e13, n6.1 c h1 h2]
    have : ∀ c, c < 54 → c ∉ ([51, 52, 13] : List Nat) → nc6.getD (c - 6) 0 = nc7.getD (c - 6) 0 := by decide
    exact this c (by omega) (by simp [e51, e52, e13]), fun c h => by
    rw [zcn_sr, cs c (by omega) (by omega), zcn_new, if_neg (by omega), n6.2 c h]⟩
  have o7 : zOnly (fun a b e => (a = 13 ∧ b = 0) ∨ a = 51 ∨ (a = 6 ∧ b = 0 ∧ e = 6)) t6 (zsr s7 6 0 6 (13, 0)) := (z6.on (c := 13) (by decide)).tr ((os.mono (fun a b e q => by omega)).tr (zOnly.sr (by omega)))
  have l7 : ∀ q ∈ ([(6, (13, 0)), (5, (12, 0)), (4, (11, 0)), (3, (10, 0)), (2, (9, 0)), (1, (8, 0)), (0, (7, 0))] : List (Nat × (Nat × Nat))), zgr (zsr s7 6 0 6 (13, 0)) 6 0 q.1 = q.2 := fun q hq => by
    rcases List.mem_cons.mp hq with rfl | hq
    · rw [zgr_sr, if_pos ⟨rfl, rfl, rfl⟩]
    · have hne : ∀ q ∈ ([(5, (12, 0)), (4, (11, 0)), (3, (10, 0)), (2, (9, 0)), (1, (8, 0)), (0, (7, 0))] : List (Nat × (Nat × Nat))), q.1 ≠ 6 := by decide
      rw [zgr_sr, if_neg (fun x => hne q hq x.2.2), os.r 6 0 q.1 (by omega), z6.gr (by decide)]
      exact l6 q hq
  have g13_3 : zgr (zsr s7 6 0 6 (13, 0)) 13 0 3 = (51, 0) := f13_3
  have g13_0 : zgr (zsr s7 6 0 6 (13, 0)) 13 0 0 = (7, 0) := f13_0
  have g13_1 : zgr (zsr s7 6 0 6 (13, 0)) 13 0 1 = (8, 0) := f13_1
  have g13_2 : zgr (zsr s7 6 0 6 (13, 0)) 13 0 2 = (10, 0) := f13_2
  have gw51 : ∀ e, e < 8 → zgr (zsr s7 6 0 6 (13, 0)) 51 0 e = (52, e) := w51
  have gi13_4 : zgi (zsr s7 6 0 6 (13, 0)) 13 0 4 = (-9) := i13_4
  exact h _ z7 n7 o7 l7 g13_3 g13_0 g13_1 g13_2 gw51 gi13_4
theorem P11_7 {t7 : zSt} {Q : Option zV → zSt → Prop} (z7 : zZ0 t7) (n7 : zNC nc7 σ t7) (l7 : ∀ q ∈ ([(6, (13, 0)), (5, (12, 0)), (4, (11, 0)), (3, (10, 0)), (2, (9, 0)), (1, (8, 0)), (0, (7, 0))] : List (Nat × (Nat × Nat))), zgr t7 6 0 q.1 = q.2) (h : ∀ τ, zZ0 τ → zNC nc8 σ τ → zOnly (fun a b e => (a = 14 ∧ b = 0) ∨ (a = 6 ∧ b = 0 ∧ e = 7)) t7 τ → (∀ q ∈ ([(7, (14, 0)), (6, (13, 0)), (5, (12, 0)), (4, (11, 0)), (3, (10, 0)), (2, (9, 0)), (1, (8, 0)), (0, (7, 0))] : List (Nat × (Nat × Nat))), zgr τ 6 0 q.1 = q.2) → (zgi τ 14 0 0 = 0) → zE false (d + 5) 42 905 M_X11_init 140 [some (.inr (.inr (6, 0))), none] [] τ Q) : zE false (d + 5) 43 906 M_X11_init 129 [some (.inr (.inr (6, 0))), none] [] t7 Q := by
  refine T_X11_init_129 (k1 := 0) (m1 := 0) (kc := 42) (ks := 905) ?_
  rw [show zcn t7 14 = 0 from n7.1 14 (by decide) (by decide)]
  refine S_X0_init ?_
  have zs : zZ0 (zsi (znew t7 14) 14 0 0 0) := (z7.new (by decide)).si (by rw [zcn_new, if_pos rfl]; omega)
  have os : zOnly (fun a b _ => (a = 14 ∧ b = 0)) (znew t7 14) (zsi (znew t7 14) 14 0 0 0) := zOnly.si ⟨rfl, rfl⟩
  have z8 : zZ0 (zsr (zsi (znew t7 14) 14 0 0 0) 6 0 7 (14, 0)) := zs.sr (by show 0 < zcn (zsi (znew t7 14) 14 0 0 0) 6; rw [zcn_si, zcn_new, if_neg (by omega), n7.1 6 (by decide) (by decide)]; decide)
  have n8 : zNC nc8 σ (zsr (zsi (znew t7 14) 14 0 0 0) 6 0 7 (14, 0)) := ⟨fun c h1 h2 => by
    rw [zcn_sr, zcn_si]
    rw [zcn_new]
    by_cases e14 : c = 14
    · subst e14; rw [if_pos rfl, n7.1 14 (by decide) (by decide)]; rfl
    rw [if_neg e14, n7.1 c h1 h2]
    have : ∀ c, c < 54 → c ∉ ([14] : List Nat) → nc7.getD (c - 6) 0 = nc8.getD (c - 6) 0 := by decide
    exact this c (by omega) (by simp [e14]), fun c h => by
    rw [zcn_sr, zcn_si, zcn_new, if_neg (by omega), n7.2 c h]⟩
  have o8 : zOnly (fun a b e => (a = 14 ∧ b = 0) ∨ (a = 6 ∧ b = 0 ∧ e = 7)) t7 (zsr (zsi (znew t7 14) 14 0 0 0) 6 0 7 (14, 0)) := (z7.on (c := 14) (by decide)).tr ((os.mono (fun a b e q => by omega)).tr (zOnly.sr (by omega)))
  have l8 : ∀ q ∈ ([(7, (14, 0)), (6, (13, 0)), (5, (12, 0)), (4, (11, 0)), (3, (10, 0)), (2, (9, 0)), (1, (8, 0)), (0, (7, 0))] : List (Nat × (Nat × Nat))), zgr (zsr (zsi (znew t7 14) 14 0 0 0) 6 0 7 (14, 0)) 6 0 q.1 = q.2 := fun q hq => by
    rcases List.mem_cons.mp hq with rfl | hq
    · rw [zgr_sr, if_pos ⟨rfl, rfl, rfl⟩]
    · have hne : ∀ q ∈ ([(6, (13, 0)), (5, (12, 0)), (4, (11, 0)), (3, (10, 0)), (2, (9, 0)), (1, (8, 0)), (0, (7, 0))] : List (Nat × (Nat × Nat))), q.1 ≠ 7 := by decide
      rw [zgr_sr, if_neg (fun x => hne q hq x.2.2), os.r 6 0 q.1 (by omega), z7.gr (by decide)]
      exact l7 q hq
  have gi14_0 : zgi (zsr (zsi (znew t7 14) 14 0 0 0) 6 0 7 (14, 0)) 14 0 0 = 0 := rfl
  exact h _ z8 n8 o8 l8 gi14_0
theorem P11_8 {t8 : zSt} {Q : Option zV → zSt → Prop} (z8 : zZ0 t8) (n8 : zNC nc8 σ t8) (l8 : ∀ q ∈ ([(7, (14, 0)), (6, (13, 0)), (5, (12, 0)), (4, (11, 0)), (3, (10, 0)), (2, (9, 0)), (1, (8, 0)), (0, (7, 0))] : List (Nat × (Nat × Nat))), zgr t8 6 0 q.1 = q.2) (h : ∀ τ, zZ0 τ → zNC nc9 σ τ → zOnly (fun a b e => (a = 6 ∧ b = 0 ∧ e = 8)) t8 τ → (∀ q ∈ ([(8, (18, 0)), (7, (14, 0)), (6, (13, 0)), (5, (12, 0)), (4, (11, 0)), (3, (10, 0)), (2, (9, 0)), (1, (8, 0)), (0, (7, 0))] : List (Nat × (Nat × Nat))), zgr τ 6 0 q.1 = q.2) → zE false (d + 5) 41 903 M_X11_init 148 [some (.inr (.inr (6, 0))), none] [] τ Q) : zE false (d + 5) 42 905 M_X11_init 140 [some (.inr (.inr (6, 0))), none] [] t8 Q := by
  refine T_X11_init_140 (kc := 41) (ks := 903) ?_
  rw [show zcn t8 18 = 0 from n8.1 18 (by decide) (by decide)]
  have z9 : zZ0 (zsr (znew t8 18) 6 0 8 (18, 0)) := (z8.new (by decide)).sr (by rw [zcn_new, if_neg (by omega), n8.1 6 (by decide) (by decide)]; decide)
  have n9 : zNC nc9 σ (zsr (znew t8 18) 6 0 8 (18, 0)) := ⟨fun c h1 h2 => by
    rw [zcn_sr, zcn_new]
    by_cases e18 : c = 18
    · subst e18; rw [if_pos rfl, n8.1 18 (by decide) (by decide)]; rfl
    · rw [if_neg e18, n8.1 c h1 h2]
      have : ∀ c, c < 54 → c ∉ ([18] : List Nat) → nc8.getD (c - 6) 0 = nc9.getD (c - 6) 0 := by decide
      exact this c (by omega) (by simp [e18]), fun c h => by rw [zcn_sr, zcn_new, if_neg (by omega), n8.2 c h]⟩
  have o9 : zOnly (fun a b e => (a = 6 ∧ b = 0 ∧ e = 8)) t8 (zsr (znew t8 18) 6 0 8 (18, 0)) := (z8.on (c := 18) (by decide)).tr (zOnly.sr ⟨rfl, rfl, rfl⟩)
  have l9 : ∀ q ∈ ([(8, (18, 0)), (7, (14, 0)), (6, (13, 0)), (5, (12, 0)), (4, (11, 0)), (3, (10, 0)), (2, (9, 0)), (1, (8, 0)), (0, (7, 0))] : List (Nat × (Nat × Nat))), zgr (zsr (znew t8 18) 6 0 8 (18, 0)) 6 0 q.1 = q.2 := fun q hq => by
    rcases List.mem_cons.mp hq with rfl | hq
    · rw [zgr_sr, if_pos ⟨rfl, rfl, rfl⟩]
    · have hne : ∀ q ∈ ([(7, (14, 0)), (6, (13, 0)), (5, (12, 0)), (4, (11, 0)), (3, (10, 0)), (2, (9, 0)), (1, (8, 0)), (0, (7, 0))] : List (Nat × (Nat × Nat))), q.1 ≠ 8 := by decide
      rw [zgr_sr, if_neg (fun x => hne q hq x.2.2), z8.gr (by decide)]
      exact l8 q hq
  exact h _ z9 n9 o9 l9
theorem P11_9 {t9 : zSt} {Q : Option zV → zSt → Prop} (z9 : zZ0 t9) (n9 : zNC nc9 σ t9) (l9 : ∀ q ∈ ([(8, (18, 0)), (7, (14, 0)), (6, (13, 0)), (5, (12, 0)), (4, (11, 0)), (3, (10, 0)), (2, (9, 0)), (1, (8, 0)), (0, (7, 0))] : List (Nat × (Nat × Nat))), zgr t9 6 0 q.1 = q.2) (h : ∀ τ, zZ0 τ → zNC nc10 σ τ → zOnly (fun a b e => (a = 6 ∧ b = 0 ∧ e = 9)) t9 τ → (∀ q ∈ ([(9, (19, 0)), (8, (18, 0)), (7, (14, 0)), (6, (13, 0)), (5, (12, 0)), (4, (11, 0)), (3, (10, 0)), (2, (9, 0)), (1, (8, 0)), (0, (7, 0))] : List (Nat × (Nat × Nat))), zgr τ 6 0 q.1 = q.2) → zE false (d + 5) 40 901 M_X11_init 155 [some (.inr (.inr (6, 0))), none] [] τ Q) : zE false (d + 5) 41 903 M_X11_init 148 [some (.inr (.inr (6, 0))), none] [] t9 Q := by
  refine T_X11_init_148 (kc := 40) (ks := 901) ?_
  rw [show zcn t9 19 = 0 from n9.1 19 (by decide) (by decide)]
  have z10 : zZ0 (zsr (znew t9 19) 6 0 9 (19, 0)) := (z9.new (by decide)).sr (by rw [zcn_new, if_neg (by omega), n9.1 6 (by decide) (by decide)]; decide)
  have n10 : zNC nc10 σ (zsr (znew t9 19) 6 0 9 (19, 0)) := ⟨fun c h1 h2 => by
    rw [zcn_sr, zcn_new]
    by_cases e19 : c = 19
    · subst e19; rw [if_pos rfl, n9.1 19 (by decide) (by decide)]; rfl
    · rw [if_neg e19, n9.1 c h1 h2]
      have : ∀ c, c < 54 → c ∉ ([19] : List Nat) → nc9.getD (c - 6) 0 = nc10.getD (c - 6) 0 := by decide
      exact this c (by omega) (by simp [e19]), fun c h => by rw [zcn_sr, zcn_new, if_neg (by omega), n9.2 c h]⟩
  have o10 : zOnly (fun a b e => (a = 6 ∧ b = 0 ∧ e = 9)) t9 (zsr (znew t9 19) 6 0 9 (19, 0)) := (z9.on (c := 19) (by decide)).tr (zOnly.sr ⟨rfl, rfl, rfl⟩)
  have l10 : ∀ q ∈ ([(9, (19, 0)), (8, (18, 0)), (7, (14, 0)), (6, (13, 0)), (5, (12, 0)), (4, (11, 0)), (3, (10, 0)), (2, (9, 0)), (1, (8, 0)), (0, (7, 0))] : List (Nat × (Nat × Nat))), zgr (zsr (znew t9 19) 6 0 9 (19, 0)) 6 0 q.1 = q.2 := fun q hq => by
    rcases List.mem_cons.mp hq with rfl | hq
    · rw [zgr_sr, if_pos ⟨rfl, rfl, rfl⟩]
    · have hne : ∀ q ∈ ([(8, (18, 0)), (7, (14, 0)), (6, (13, 0)), (5, (12, 0)), (4, (11, 0)), (3, (10, 0)), (2, (9, 0)), (1, (8, 0)), (0, (7, 0))] : List (Nat × (Nat × Nat))), q.1 ≠ 9 := by decide
      rw [zgr_sr, if_neg (fun x => hne q hq x.2.2), z9.gr (by decide)]
      exact l9 q hq
  exact h _ z10 n10 o10 l10
theorem P11_10 {t10 : zSt} {Q : Option zV → zSt → Prop} (z10 : zZ0 t10) (n10 : zNC nc10 σ t10) (l10 : ∀ q ∈ ([(9, (19, 0)), (8, (18, 0)), (7, (14, 0)), (6, (13, 0)), (5, (12, 0)), (4, (11, 0)), (3, (10, 0)), (2, (9, 0)), (1, (8, 0)), (0, (7, 0))] : List (Nat × (Nat × Nat))), zgr t10 6 0 q.1 = q.2) (h : ∀ τ, zZ0 τ → zNC nc11 σ τ → zOnly (fun a b e => (a = 6 ∧ b = 0 ∧ e = 10)) t10 τ → (∀ q ∈ ([(10, (20, 0)), (9, (19, 0)), (8, (18, 0)), (7, (14, 0)), (6, (13, 0)), (5, (12, 0)), (4, (11, 0)), (3, (10, 0)), (2, (9, 0)), (1, (8, 0)), (0, (7, 0))] : List (Nat × (Nat × Nat))), zgr τ 6 0 q.1 = q.2) → zE false (d + 5) 39 893 M_X11_init 164 [some (.inr (.inr (6, 0))), none] [] τ Q) : zE false (d + 5) 40 901 M_X11_init 155 [some (.inr (.inr (6, 0))), none] [] t10 Q := by
  refine T_X11_init_155 (kc := 39) (ks := 893) ?_
  rw [show zcn t10 20 = 0 from n10.1 20 (by decide) (by decide)]
  have z11 : zZ0 (zsr (znew t10 20) 6 0 10 (20, 0)) := (z10.new (by decide)).sr (by rw [zcn_new, if_neg (by omega), n10.1 6 (by decide) (by decide)]; decide)
  have n11 : zNC nc11 σ (zsr (znew t10 20) 6 0 10 (20, 0)) := ⟨fun c h1 h2 => by
    rw [zcn_sr, zcn_new]
    by_cases e20 : c = 20
    · subst e20; rw [if_pos rfl, n10.1 20 (by decide) (by decide)]; rfl
    · rw [if_neg e20, n10.1 c h1 h2]
      have : ∀ c, c < 54 → c ∉ ([20] : List Nat) → nc10.getD (c - 6) 0 = nc11.getD (c - 6) 0 := by decide
      exact this c (by omega) (by simp [e20]), fun c h => by rw [zcn_sr, zcn_new, if_neg (by omega), n10.2 c h]⟩
  have o11 : zOnly (fun a b e => (a = 6 ∧ b = 0 ∧ e = 10)) t10 (zsr (znew t10 20) 6 0 10 (20, 0)) := (z10.on (c := 20) (by decide)).tr (zOnly.sr ⟨rfl, rfl, rfl⟩)
  have l11 : ∀ q ∈ ([(10, (20, 0)), (9, (19, 0)), (8, (18, 0)), (7, (14, 0)), (6, (13, 0)), (5, (12, 0)), (4, (11, 0)), (3, (10, 0)), (2, (9, 0)), (1, (8, 0)), (0, (7, 0))] : List (Nat × (Nat × Nat))), zgr (zsr (znew t10 20) 6 0 10 (20, 0)) 6 0 q.1 = q.2 := fun q hq => by
    rcases List.mem_cons.mp hq with rfl | hq
    · rw [zgr_sr, if_pos ⟨rfl, rfl, rfl⟩]
    · have hne : ∀ q ∈ ([(9, (19, 0)), (8, (18, 0)), (7, (14, 0)), (6, (13, 0)), (5, (12, 0)), (4, (11, 0)), (3, (10, 0)), (2, (9, 0)), (1, (8, 0)), (0, (7, 0))] : List (Nat × (Nat × Nat))), q.1 ≠ 10 := by decide
      rw [zgr_sr, if_neg (fun x => hne q hq x.2.2), z10.gr (by decide)]
      exact l10 q hq
  exact h _ z11 n11 o11 l11
theorem P11_11 {t11 : zSt} {Q : Option zV → zSt → Prop} (z11 : zZ0 t11) (n11 : zNC nc11 σ t11) (l11 : ∀ q ∈ ([(10, (20, 0)), (9, (19, 0)), (8, (18, 0)), (7, (14, 0)), (6, (13, 0)), (5, (12, 0)), (4, (11, 0)), (3, (10, 0)), (2, (9, 0)), (1, (8, 0)), (0, (7, 0))] : List (Nat × (Nat × Nat))), zgr t11 6 0 q.1 = q.2) (h : ∀ τ, zZ0 τ → zNC nc12 σ τ → zOnly (fun a b e => (a = 6 ∧ b = 0 ∧ e = 11)) t11 τ → (∀ q ∈ ([(11, (21, 0)), (10, (20, 0)), (9, (19, 0)), (8, (18, 0)), (7, (14, 0)), (6, (13, 0)), (5, (12, 0)), (4, (11, 0)), (3, (10, 0)), (2, (9, 0)), (1, (8, 0)), (0, (7, 0))] : List (Nat × (Nat × Nat))), zgr τ 6 0 q.1 = q.2) → zE false (d + 5) 38 885 M_X11_init 173 [some (.inr (.inr (6, 0))), none] [] τ Q) : zE false (d + 5) 39 893 M_X11_init 164 [some (.inr (.inr (6, 0))), none] [] t11 Q := by
  refine T_X11_init_164 (kc := 38) (ks := 885) ?_
  rw [show zcn t11 21 = 0 from n11.1 21 (by decide) (by decide)]
  have z12 : zZ0 (zsr (znew t11 21) 6 0 11 (21, 0)) := (z11.new (by decide)).sr (by rw [zcn_new, if_neg (by omega), n11.1 6 (by decide) (by decide)]; decide)
  have n12 : zNC nc12 σ (zsr (znew t11 21) 6 0 11 (21, 0)) := ⟨fun c h1 h2 => by
    rw [zcn_sr, zcn_new]
    by_cases e21 : c = 21
    · subst e21; rw [if_pos rfl, n11.1 21 (by decide) (by decide)]; rfl
    · rw [if_neg e21, n11.1 c h1 h2]
      have : ∀ c, c < 54 → c ∉ ([21] : List Nat) → nc11.getD (c - 6) 0 = nc12.getD (c - 6) 0 := by decide
      exact this c (by omega) (by simp [e21]), fun c h => by rw [zcn_sr, zcn_new, if_neg (by omega), n11.2 c h]⟩
  have o12 : zOnly (fun a b e => (a = 6 ∧ b = 0 ∧ e = 11)) t11 (zsr (znew t11 21) 6 0 11 (21, 0)) := (z11.on (c := 21) (by decide)).tr (zOnly.sr ⟨rfl, rfl, rfl⟩)
  have l12 : ∀ q ∈ ([(11, (21, 0)), (10, (20, 0)), (9, (19, 0)), (8, (18, 0)), (7, (14, 0)), (6, (13, 0)), (5, (12, 0)), (4, (11, 0)), (3, (10, 0)), (2, (9, 0)), (1, (8, 0)), (0, (7, 0))] : List (Nat × (Nat × Nat))), zgr (zsr (znew t11 21) 6 0 11 (21, 0)) 6 0 q.1 = q.2 := fun q hq => by
    rcases List.mem_cons.mp hq with rfl | hq
    · rw [zgr_sr, if_pos ⟨rfl, rfl, rfl⟩]
    · have hne : ∀ q ∈ ([(10, (20, 0)), (9, (19, 0)), (8, (18, 0)), (7, (14, 0)), (6, (13, 0)), (5, (12, 0)), (4, (11, 0)), (3, (10, 0)), (2, (9, 0)), (1, (8, 0)), (0, (7, 0))] : List (Nat × (Nat × Nat))), q.1 ≠ 11 := by decide
      rw [zgr_sr, if_neg (fun x => hne q hq x.2.2), z11.gr (by decide)]
      exact l11 q hq
  exact h _ z12 n12 o12 l12
theorem P11_12 {t12 : zSt} {Q : Option zV → zSt → Prop} (z12 : zZ0 t12) (n12 : zNC nc12 σ t12) (l12 : ∀ q ∈ ([(11, (21, 0)), (10, (20, 0)), (9, (19, 0)), (8, (18, 0)), (7, (14, 0)), (6, (13, 0)), (5, (12, 0)), (4, (11, 0)), (3, (10, 0)), (2, (9, 0)), (1, (8, 0)), (0, (7, 0))] : List (Nat × (Nat × Nat))), zgr t12 6 0 q.1 = q.2) (h : ∀ τ, zZ0 τ → zNC nc13 σ τ → zOnly (fun a b e => (a = 6 ∧ b = 0 ∧ e = 12)) t12 τ → (∀ q ∈ ([(12, (22, 0)), (11, (21, 0)), (10, (20, 0)), (9, (19, 0)), (8, (18, 0)), (7, (14, 0)), (6, (13, 0)), (5, (12, 0)), (4, (11, 0)), (3, (10, 0)), (2, (9, 0)), (1, (8, 0)), (0, (7, 0))] : List (Nat × (Nat × Nat))), zgr τ 6 0 q.1 = q.2) → zE false (d + 5) 37 881 M_X11_init 181 [some (.inr (.inr (6, 0))), none] [] τ Q) : zE false (d + 5) 38 885 M_X11_init 173 [some (.inr (.inr (6, 0))), none] [] t12 Q := by
  refine T_X11_init_173 (kc := 37) (ks := 881) ?_
  rw [show zcn t12 22 = 0 from n12.1 22 (by decide) (by decide)]
  have z13 : zZ0 (zsr (znew t12 22) 6 0 12 (22, 0)) := (z12.new (by decide)).sr (by rw [zcn_new, if_neg (by omega), n12.1 6 (by decide) (by decide)]; decide)
  have n13 : zNC nc13 σ (zsr (znew t12 22) 6 0 12 (22, 0)) := ⟨fun c h1 h2 => by
    rw [zcn_sr, zcn_new]
    by_cases e22 : c = 22
    · subst e22; rw [if_pos rfl, n12.1 22 (by decide) (by decide)]; rfl
    · rw [if_neg e22, n12.1 c h1 h2]
      have : ∀ c, c < 54 → c ∉ ([22] : List Nat) → nc12.getD (c - 6) 0 = nc13.getD (c - 6) 0 := by decide
      exact this c (by omega) (by simp [e22]), fun c h => by rw [zcn_sr, zcn_new, if_neg (by omega), n12.2 c h]⟩
  have o13 : zOnly (fun a b e => (a = 6 ∧ b = 0 ∧ e = 12)) t12 (zsr (znew t12 22) 6 0 12 (22, 0)) := (z12.on (c := 22) (by decide)).tr (zOnly.sr ⟨rfl, rfl, rfl⟩)
  have l13 : ∀ q ∈ ([(12, (22, 0)), (11, (21, 0)), (10, (20, 0)), (9, (19, 0)), (8, (18, 0)), (7, (14, 0)), (6, (13, 0)), (5, (12, 0)), (4, (11, 0)), (3, (10, 0)), (2, (9, 0)), (1, (8, 0)), (0, (7, 0))] : List (Nat × (Nat × Nat))), zgr (zsr (znew t12 22) 6 0 12 (22, 0)) 6 0 q.1 = q.2 := fun q hq => by
    rcases List.mem_cons.mp hq with rfl | hq
    · rw [zgr_sr, if_pos ⟨rfl, rfl, rfl⟩]
    · have hne : ∀ q ∈ ([(11, (21, 0)), (10, (20, 0)), (9, (19, 0)), (8, (18, 0)), (7, (14, 0)), (6, (13, 0)), (5, (12, 0)), (4, (11, 0)), (3, (10, 0)), (2, (9, 0)), (1, (8, 0)), (0, (7, 0))] : List (Nat × (Nat × Nat))), q.1 ≠ 12 := by decide
      rw [zgr_sr, if_neg (fun x => hne q hq x.2.2), z12.gr (by decide)]
      exact l12 q hq
  exact h _ z13 n13 o13 l13
theorem P11_13 {t13 : zSt} {Q : Option zV → zSt → Prop} (z13 : zZ0 t13) (n13 : zNC nc13 σ t13) (l13 : ∀ q ∈ ([(12, (22, 0)), (11, (21, 0)), (10, (20, 0)), (9, (19, 0)), (8, (18, 0)), (7, (14, 0)), (6, (13, 0)), (5, (12, 0)), (4, (11, 0)), (3, (10, 0)), (2, (9, 0)), (1, (8, 0)), (0, (7, 0))] : List (Nat × (Nat × Nat))), zgr t13 6 0 q.1 = q.2) (h : ∀ τ, zZ0 τ → zNC nc13 σ τ → zOnly (fun a b e => (a = 6 ∧ b = 0 ∧ 13 ≤ e)) t13 τ → (∀ q ∈ ([(12, (22, 0)), (11, (21, 0)), (10, (20, 0)), (9, (19, 0)), (8, (18, 0)), (7, (14, 0)), (6, (13, 0)), (5, (12, 0)), (4, (11, 0)), (3, (10, 0)), (2, (9, 0)), (1, (8, 0)), (0, (7, 0))] : List (Nat × (Nat × Nat))), zgr τ 6 0 q.1 = q.2) → (zgi τ 6 0 13 = 0) → (zgi τ 6 0 14 = 0) → (zgi τ 6 0 15 = 0) → zE false (d + 5) 37 881 M_X11_init 198 [some (.inr (.inr (6, 0))), some (.inl 0)] [] τ Q) : zE false (d + 5) 37 881 M_X11_init 181 [some (.inr (.inr (6, 0))), none] [] t13 Q := by
  refine T_X11_init_181 (T_X11_init_186 (T_X11_init_191 (T_X11_init_196 ?_)))
  have z14 : zZ0 (zsi (zsi (zsi t13 6 0 13 0) 6 0 14 0) 6 0 15 0) := ((z13.si (by show 0 < zcn t13 6; rw [n13.1 6 (by decide) (by decide)]; decide)).si (by show 0 < zcn t13 6; rw [n13.1 6 (by decide) (by decide)]; decide)).si (by show 0 < zcn t13 6; rw [n13.1 6 (by decide) (by decide)]; decide)
  have n14 : zNC nc13 σ (zsi (zsi (zsi t13 6 0 13 0) 6 0 14 0) 6 0 15 0) := ⟨fun c h1 h2 => n13.1 c h1 h2, fun c h => n13.2 c h⟩
  have o14 : zOnly (fun a b e => (a = 6 ∧ b = 0 ∧ 13 ≤ e)) t13 (zsi (zsi (zsi t13 6 0 13 0) 6 0 14 0) 6 0 15 0) := ((zOnly.si (by omega)).tr (zOnly.si (by omega))).tr (zOnly.si (by omega))
  have l14 : ∀ q ∈ ([(12, (22, 0)), (11, (21, 0)), (10, (20, 0)), (9, (19, 0)), (8, (18, 0)), (7, (14, 0)), (6, (13, 0)), (5, (12, 0)), (4, (11, 0)), (3, (10, 0)), (2, (9, 0)), (1, (8, 0)), (0, (7, 0))] : List (Nat × (Nat × Nat))), zgr (zsi (zsi (zsi t13 6 0 13 0) 6 0 14 0) 6 0 15 0) 6 0 q.1 = q.2 := fun q hq => l13 q hq
  have gi6_13 : zgi (zsi (zsi (zsi t13 6 0 13 0) 6 0 14 0) 6 0 15 0) 6 0 13 = 0 := rfl
  have gi6_14 : zgi (zsi (zsi (zsi t13 6 0 13 0) 6 0 14 0) 6 0 15 0) 6 0 14 = 0 := rfl
  have gi6_15 : zgi (zsi (zsi (zsi t13 6 0 13 0) 6 0 14 0) 6 0 15 0) 6 0 15 = 0 := rfl
  exact h _ z14 n14 o14 l14 gi6_13 gi6_14 gi6_15
theorem P11_14 {t14 : zSt} {Q : Option zV → zSt → Prop} (z14 : zZ0 t14) (n14 : zNC nc13 σ t14) (l14 : ∀ q ∈ ([(12, (22, 0)), (11, (21, 0)), (10, (20, 0)), (9, (19, 0)), (8, (18, 0)), (7, (14, 0)), (6, (13, 0)), (5, (12, 0)), (4, (11, 0)), (3, (10, 0)), (2, (9, 0)), (1, (8, 0)), (0, (7, 0))] : List (Nat × (Nat × Nat))), zgr t14 6 0 q.1 = q.2) (h : ∀ τ, zZ0 τ → zNC nc14 σ τ → zOnly (fun a b e => (a = 7 ∧ b = 1) ∨ (a = 18 ∧ e = 0)) t14 τ → (∀ q ∈ ([(12, (22, 0)), (11, (21, 0)), (10, (20, 0)), (9, (19, 0)), (8, (18, 0)), (7, (14, 0)), (6, (13, 0)), (5, (12, 0)), (4, (11, 0)), (3, (10, 0)), (2, (9, 0)), (1, (8, 0)), (0, (7, 0))] : List (Nat × (Nat × Nat))), zgr τ 6 0 q.1 = q.2) → (∀ q ∈ ([(23, 4), (24, 5), (25, 6), (26, 9), (27, 12), (28, 13), (29, 14), (30, 16)] : List (Nat × Nat)), zgr τ 7 1 q.2 = (q.1, 1)) → (zgr τ 18 0 0 = (7, 1)) → zE false (d + 5) 28 699 M_X11_init 198 [some (.inr (.inr (6, 0))), some (.inl 1)] [] τ Q) : zE false (d + 5) 37 881 M_X11_init 198 [some (.inr (.inr (6, 0))), some (.inl 0)] [] t14 Q := by
  refine T_X11_init_198 (k1 := 8) (m1 := 165) (kc := 28) (ks := 699) ⟨fun g => absurd g (by decide), fun _ => ⟨l14 (8, (18, 0)) (by decide), ?_⟩⟩
  rw [show zcn t14 7 = 1 from n14.1 7 (by decide) (by decide)]
  refine S_X1_init (j := 1) (z14.new (by decide)) (by rw [zcn_new, if_pos rfl, n14.1 7 (by decide) (by decide)]; decide) (fun c h1 h2 => by
    rw [zcn_new, if_neg (by omega), n14.1 c (by omega) (by omega)]
    have : ∀ c, c < 31 → 23 ≤ c → nc13.getD (c - 6) 0 = 1 := by decide
    exact this c (by omega) h1) (fun s15 zs os cs rs rd => ⟨nI_in (c := 0) (by omega) (by omega), ?_⟩)
  refine T_X11_init_216 ?_
  rw [show (0 : Int32).toNatClampNeg = 0 from rfl, show (0 + 1 : Int32) = 1 from rfl]
  have z15 : zZ0 (zsr s15 18 0 0 (7, 1)) := zs.sr (by show 0 < zcn s15 18; rw [cs, if_neg (by omega), zcn_new, if_neg (by omega), n14.1 18 (by decide) (by decide)]; decide)
  have n15 : zNC nc14 σ (zsr s15 18 0 0 (7, 1)) := ⟨fun c h1 h2 => by
    rw [zcn_sr, cs c]
    by_cases e : 23 ≤ c ∧ c ≤ 30
    · rw [if_pos e]
      have : ∀ c, c < 31 → 23 ≤ c → 1 + 1 = nc14.getD (c - 6) 0 := by decide
      exact this c (by omega) e.1
    · rw [if_neg e, zcn_new]
      by_cases e7 : c = 7
      · subst e7; rw [if_pos rfl, n14.1 7 (by decide) (by decide)]; rfl
      · rw [if_neg e7, n14.1 c h1 h2]
        have : ∀ c, c < 54 → ¬ (23 ≤ c ∧ c ≤ 30) → c ≠ 7 → nc13.getD (c - 6) 0 = nc14.getD (c - 6) 0 := by decide
        exact this c (by omega) e e7, fun c h => by rw [zcn_sr, cs, if_neg (by omega), zcn_new, if_neg (by omega), n14.2 c h]⟩
  have o15 : zOnly (fun a b e => (a = 7 ∧ b = 1) ∨ (a = 18 ∧ e = 0)) t14 (zsr s15 18 0 0 (7, 1)) := (z14.on (c := 7) (by decide)).tr ((os.mono (fun a b e q => by omega)).tr (zOnly.sr (by omega)))
  have l15 : ∀ q ∈ ([(12, (22, 0)), (11, (21, 0)), (10, (20, 0)), (9, (19, 0)), (8, (18, 0)), (7, (14, 0)), (6, (13, 0)), (5, (12, 0)), (4, (11, 0)), (3, (10, 0)), (2, (9, 0)), (1, (8, 0)), (0, (7, 0))] : List (Nat × (Nat × Nat))), zgr (zsr s15 18 0 0 (7, 1)) 6 0 q.1 = q.2 := fun q hq => by rw [zgr_sr, if_neg (by omega), os.r 6 0 q.1 (by omega), z14.gr (by decide)]; exact l14 q hq
  have rr7_1 : ∀ q ∈ ([(23, 4), (24, 5), (25, 6), (26, 9), (27, 12), (28, 13), (29, 14), (30, 16)] : List (Nat × Nat)), zgr (zsr s15 18 0 0 (7, 1)) 7 1 q.2 = (q.1, 1) := fun q hq => rs q hq
  have g18_0 : zgr (zsr s15 18 0 0 (7, 1)) 18 0 0 = (7, 1) := rfl
  exact h _ z15 n15 o15 l15 rr7_1 g18_0
theorem P11_15 {t15 : zSt} {Q : Option zV → zSt → Prop} (z15 : zZ0 t15) (n15 : zNC nc14 σ t15) (l15 : ∀ q ∈ ([(12, (22, 0)), (11, (21, 0)), (10, (20, 0)), (9, (19, 0)), (8, (18, 0)), (7, (14, 0)), (6, (13, 0)), (5, (12, 0)), (4, (11, 0)), (3, (10, 0)), (2, (9, 0)), (1, (8, 0)), (0, (7, 0))] : List (Nat × (Nat × Nat))), zgr t15 6 0 q.1 = q.2) (h : ∀ τ, zZ0 τ → zNC nc15 σ τ → zOnly (fun a b e => (a = 7 ∧ b = 2) ∨ (a = 18 ∧ e = 1)) t15 τ → (∀ q ∈ ([(12, (22, 0)), (11, (21, 0)), (10, (20, 0)), (9, (19, 0)), (8, (18, 0)), (7, (14, 0)), (6, (13, 0)), (5, (12, 0)), (4, (11, 0)), (3, (10, 0)), (2, (9, 0)), (1, (8, 0)), (0, (7, 0))] : List (Nat × (Nat × Nat))), zgr τ 6 0 q.1 = q.2) → (∀ q ∈ ([(23, 4), (24, 5), (25, 6), (26, 9), (27, 12), (28, 13), (29, 14), (30, 16)] : List (Nat × Nat)), zgr τ 7 2 q.2 = (q.1, 2)) → (zgr τ 18 0 1 = (7, 2)) → zE false (d + 5) 19 517 M_X11_init 198 [some (.inr (.inr (6, 0))), some (.inl 2)] [] τ Q) : zE false (d + 5) 28 699 M_X11_init 198 [some (.inr (.inr (6, 0))), some (.inl 1)] [] t15 Q := by
  refine T_X11_init_198 (k1 := 8) (m1 := 165) (kc := 19) (ks := 517) ⟨fun g => absurd g (by decide), fun _ => ⟨l15 (8, (18, 0)) (by decide), ?_⟩⟩
  rw [show zcn t15 7 = 2 from n15.1 7 (by decide) (by decide)]
  refine S_X1_init (j := 2) (z15.new (by decide)) (by rw [zcn_new, if_pos rfl, n15.1 7 (by decide) (by decide)]; decide) (fun c h1 h2 => by
    rw [zcn_new, if_neg (by omega), n15.1 c (by omega) (by omega)]
    have : ∀ c, c < 31 → 23 ≤ c → nc14.getD (c - 6) 0 = 2 := by decide
    exact this c (by omega) h1) (fun s16 zs os cs rs rd => ⟨nI_in (c := 1) (by omega) (by omega), ?_⟩)
  refine T_X11_init_216 ?_
  rw [show (1 : Int32).toNatClampNeg = 1 from rfl, show (1 + 1 : Int32) = 2 from rfl]
  have z16 : zZ0 (zsr s16 18 0 1 (7, 2)) := zs.sr (by show 0 < zcn s16 18; rw [cs, if_neg (by omega), zcn_new, if_neg (by omega), n15.1 18 (by decide) (by decide)]; decide)
  have n16 : zNC nc15 σ (zsr s16 18 0 1 (7, 2)) := ⟨fun c h1 h2 => by
    rw [zcn_sr, cs c]
    by_cases e : 23 ≤ c ∧ c ≤ 30
    · rw [if_pos e]
      have : ∀ c, c < 31 → 23 ≤ c → 2 + 1 = nc15.getD (c - 6) 0 := by decide
      exact this c (by omega) e.1
    · rw [if_neg e, zcn_new]
      by_cases e7 : c = 7
      · subst e7; rw [if_pos rfl, n15.1 7 (by decide) (by decide)]; rfl
      · rw [if_neg e7, n15.1 c h1 h2]
        have : ∀ c, c < 54 → ¬ (23 ≤ c ∧ c ≤ 30) → c ≠ 7 → nc14.getD (c - 6) 0 = nc15.getD (c - 6) 0 := by decide
        exact this c (by omega) e e7, fun c h => by rw [zcn_sr, cs, if_neg (by omega), zcn_new, if_neg (by omega), n15.2 c h]⟩
  have o16 : zOnly (fun a b e => (a = 7 ∧ b = 2) ∨ (a = 18 ∧ e = 1)) t15 (zsr s16 18 0 1 (7, 2)) := (z15.on (c := 7) (by decide)).tr ((os.mono (fun a b e q => by omega)).tr (zOnly.sr (by omega)))
  have l16 : ∀ q ∈ ([(12, (22, 0)), (11, (21, 0)), (10, (20, 0)), (9, (19, 0)), (8, (18, 0)), (7, (14, 0)), (6, (13, 0)), (5, (12, 0)), (4, (11, 0)), (3, (10, 0)), (2, (9, 0)), (1, (8, 0)), (0, (7, 0))] : List (Nat × (Nat × Nat))), zgr (zsr s16 18 0 1 (7, 2)) 6 0 q.1 = q.2 := fun q hq => by rw [zgr_sr, if_neg (by omega), os.r 6 0 q.1 (by omega), z15.gr (by decide)]; exact l15 q hq
  have rr7_2 : ∀ q ∈ ([(23, 4), (24, 5), (25, 6), (26, 9), (27, 12), (28, 13), (29, 14), (30, 16)] : List (Nat × Nat)), zgr (zsr s16 18 0 1 (7, 2)) 7 2 q.2 = (q.1, 2) := fun q hq => rs q hq
  have g18_1 : zgr (zsr s16 18 0 1 (7, 2)) 18 0 1 = (7, 2) := rfl
  exact h _ z16 n16 o16 l16 rr7_2 g18_1
theorem P11_16 {t16 : zSt} {Q : Option zV → zSt → Prop} (z16 : zZ0 t16) (n16 : zNC nc15 σ t16) (l16 : ∀ q ∈ ([(12, (22, 0)), (11, (21, 0)), (10, (20, 0)), (9, (19, 0)), (8, (18, 0)), (7, (14, 0)), (6, (13, 0)), (5, (12, 0)), (4, (11, 0)), (3, (10, 0)), (2, (9, 0)), (1, (8, 0)), (0, (7, 0))] : List (Nat × (Nat × Nat))), zgr t16 6 0 q.1 = q.2) (h : ∀ τ, zZ0 τ → zNC nc16 σ τ → zOnly (fun a b e => (a = 15 ∧ b = 0) ∨ (a = 22 ∧ e = 0)) t16 τ → (∀ q ∈ ([(12, (22, 0)), (11, (21, 0)), (10, (20, 0)), (9, (19, 0)), (8, (18, 0)), (7, (14, 0)), (6, (13, 0)), (5, (12, 0)), (4, (11, 0)), (3, (10, 0)), (2, (9, 0)), (1, (8, 0)), (0, (7, 0))] : List (Nat × (Nat × Nat))), zgr τ 6 0 q.1 = q.2) → (zgr τ 15 0 2 = (53, 0)) → (zgi τ 15 0 0 = -9) → (zgi τ 15 0 1 = 0) → (zgr τ 22 0 0 = (15, 0)) → zE false (d + 5) 8 268 M_X11_init 224 [some (.inr (.inr (6, 0))), some (.inl 1)] [] τ Q) : zE false (d + 5) 10 335 M_X11_init 224 [some (.inr (.inr (6, 0))), some (.inl 0)] [] t16 Q := by
  refine T_X11_init_224 (k1 := 1) (m1 := 64) (kc := 8) (ks := 268) ⟨fun g => absurd g (by decide), fun _ => ⟨l16 (12, (22, 0)) (by decide), ?_⟩⟩
  rw [show zcn t16 15 = 0 from n16.1 15 (by decide) (by decide)]
  refine S_X8_init (j := 0) (z16.new (by decide)) (by rw [zcn_new, if_pos rfl, n16.1 15 (by decide) (by decide)]; decide) (by rw [zcn_new, if_neg (by omega)]; exact n16.1 53 (by decide) (by decide)) (fun s17 zs os cs c53 f2 i0 i1 => ⟨nI_in (c := 0) (by omega) (by omega), ?_⟩)
  refine T_X11_init_242 ?_
  rw [show (0 : Int32).toNatClampNeg = 0 from rfl, show (0 + 1 : Int32) = 1 from rfl]
  have z17 : zZ0 (zsr s17 22 0 0 (15, 0)) := zs.sr (by show 0 < zcn s17 22; rw [cs 22 (by omega), zcn_new, if_neg (by omega), n16.1 22 (by decide) (by decide)]; decide)
  have n17 : zNC nc16 σ (zsr s17 22 0 0 (15, 0)) := ⟨fun c h1 h2 => by
    by_cases e53 : c = 53
    · subst e53; exact c53
    rw [zcn_sr, cs c e53]
    rw [zcn_new]
    by_cases e15 : c = 15
    · subst e15; rw [if_pos rfl, n16.1 15 (by decide) (by decide)]; rfl
    rw [if_neg e15, n16.1 c h1 h2]
    have : ∀ c, c < 54 → c ∉ ([53, 15] : List Nat) → nc15.getD (c - 6) 0 = nc16.getD (c - 6) 0 := by decide
    exact this c (by omega) (by simp [e53, e15]), fun c h => by
    rw [zcn_sr, cs c (by omega), zcn_new, if_neg (by omega), n16.2 c h]⟩
  have o17 : zOnly (fun a b e => (a = 15 ∧ b = 0) ∨ (a = 22 ∧ e = 0)) t16 (zsr s17 22 0 0 (15, 0)) := (z16.on (c := 15) (by decide)).tr ((os.mono (fun a b e q => by omega)).tr (zOnly.sr (by omega)))
  have l17 : ∀ q ∈ ([(12, (22, 0)), (11, (21, 0)), (10, (20, 0)), (9, (19, 0)), (8, (18, 0)), (7, (14, 0)), (6, (13, 0)), (5, (12, 0)), (4, (11, 0)), (3, (10, 0)), (2, (9, 0)), (1, (8, 0)), (0, (7, 0))] : List (Nat × (Nat × Nat))), zgr (zsr s17 22 0 0 (15, 0)) 6 0 q.1 = q.2 := fun q hq => by rw [zgr_sr, if_neg (by omega), os.r 6 0 q.1 (by omega), z16.gr (by decide)]; exact l16 q hq
  have g15_0 : zgr (zsr s17 22 0 0 (15, 0)) 15 0 2 = (53, 0) := f2
  have gi15_0_0 : zgi (zsr s17 22 0 0 (15, 0)) 15 0 0 = -9 := i0
  have gi15_0_1 : zgi (zsr s17 22 0 0 (15, 0)) 15 0 1 = 0 := i1
  have g22_0 : zgr (zsr s17 22 0 0 (15, 0)) 22 0 0 = (15, 0) := rfl
  exact h _ z17 n17 o17 l17 g15_0 gi15_0_0 gi15_0_1 g22_0
theorem P11_17 {t17 : zSt} {Q : Option zV → zSt → Prop} (z17 : zZ0 t17) (n17 : zNC nc16 σ t17) (l17 : ∀ q ∈ ([(12, (22, 0)), (11, (21, 0)), (10, (20, 0)), (9, (19, 0)), (8, (18, 0)), (7, (14, 0)), (6, (13, 0)), (5, (12, 0)), (4, (11, 0)), (3, (10, 0)), (2, (9, 0)), (1, (8, 0)), (0, (7, 0))] : List (Nat × (Nat × Nat))), zgr t17 6 0 q.1 = q.2) (h : ∀ τ, zZ0 τ → zNC nc17 σ τ → zOnly (fun a b e => (a = 15 ∧ b = 1) ∨ (a = 22 ∧ e = 1)) t17 τ → (∀ q ∈ ([(12, (22, 0)), (11, (21, 0)), (10, (20, 0)), (9, (19, 0)), (8, (18, 0)), (7, (14, 0)), (6, (13, 0)), (5, (12, 0)), (4, (11, 0)), (3, (10, 0)), (2, (9, 0)), (1, (8, 0)), (0, (7, 0))] : List (Nat × (Nat × Nat))), zgr τ 6 0 q.1 = q.2) → (zgr τ 15 1 2 = (53, 1)) → (zgi τ 15 1 0 = -9) → (zgi τ 15 1 1 = 0) → (zgr τ 22 0 1 = (15, 1)) → zE false (d + 5) 6 201 M_X11_init 224 [some (.inr (.inr (6, 0))), some (.inl 2)] [] τ Q) : zE false (d + 5) 8 268 M_X11_init 224 [some (.inr (.inr (6, 0))), some (.inl 1)] [] t17 Q := by
  refine T_X11_init_224 (k1 := 1) (m1 := 64) (kc := 6) (ks := 201) ⟨fun g => absurd g (by decide), fun _ => ⟨l17 (12, (22, 0)) (by decide), ?_⟩⟩
  rw [show zcn t17 15 = 1 from n17.1 15 (by decide) (by decide)]
  refine S_X8_init (j := 1) (z17.new (by decide)) (by rw [zcn_new, if_pos rfl, n17.1 15 (by decide) (by decide)]; decide) (by rw [zcn_new, if_neg (by omega)]; exact n17.1 53 (by decide) (by decide)) (fun s18 zs os cs c53 f2 i0 i1 => ⟨nI_in (c := 1) (by omega) (by omega), ?_⟩)
  refine T_X11_init_242 ?_
  rw [show (1 : Int32).toNatClampNeg = 1 from rfl, show (1 + 1 : Int32) = 2 from rfl]
  have z18 : zZ0 (zsr s18 22 0 1 (15, 1)) := zs.sr (by show 0 < zcn s18 22; rw [cs 22 (by omega), zcn_new, if_neg (by omega), n17.1 22 (by decide) (by decide)]; decide)
  have n18 : zNC nc17 σ (zsr s18 22 0 1 (15, 1)) := ⟨fun c h1 h2 => by
    by_cases e53 : c = 53
    · subst e53; exact c53
    rw [zcn_sr, cs c e53]
    rw [zcn_new]
    by_cases e15 : c = 15
    · subst e15; rw [if_pos rfl, n17.1 15 (by decide) (by decide)]; rfl
    rw [if_neg e15, n17.1 c h1 h2]
    have : ∀ c, c < 54 → c ∉ ([53, 15] : List Nat) → nc16.getD (c - 6) 0 = nc17.getD (c - 6) 0 := by decide
    exact this c (by omega) (by simp [e53, e15]), fun c h => by
    rw [zcn_sr, cs c (by omega), zcn_new, if_neg (by omega), n17.2 c h]⟩
  have o18 : zOnly (fun a b e => (a = 15 ∧ b = 1) ∨ (a = 22 ∧ e = 1)) t17 (zsr s18 22 0 1 (15, 1)) := (z17.on (c := 15) (by decide)).tr ((os.mono (fun a b e q => by omega)).tr (zOnly.sr (by omega)))
  have l18 : ∀ q ∈ ([(12, (22, 0)), (11, (21, 0)), (10, (20, 0)), (9, (19, 0)), (8, (18, 0)), (7, (14, 0)), (6, (13, 0)), (5, (12, 0)), (4, (11, 0)), (3, (10, 0)), (2, (9, 0)), (1, (8, 0)), (0, (7, 0))] : List (Nat × (Nat × Nat))), zgr (zsr s18 22 0 1 (15, 1)) 6 0 q.1 = q.2 := fun q hq => by rw [zgr_sr, if_neg (by omega), os.r 6 0 q.1 (by omega), z17.gr (by decide)]; exact l17 q hq
  have g15_1 : zgr (zsr s18 22 0 1 (15, 1)) 15 1 2 = (53, 1) := f2
  have gi15_1_0 : zgi (zsr s18 22 0 1 (15, 1)) 15 1 0 = -9 := i0
  have gi15_1_1 : zgi (zsr s18 22 0 1 (15, 1)) 15 1 1 = 0 := i1
  have g22_1 : zgr (zsr s18 22 0 1 (15, 1)) 22 0 1 = (15, 1) := rfl
  exact h _ z18 n18 o18 l18 g15_1 gi15_1_0 gi15_1_1 g22_1
theorem P11_18 {t18 : zSt} {Q : Option zV → zSt → Prop} (z18 : zZ0 t18) (n18 : zNC nc17 σ t18) (l18 : ∀ q ∈ ([(12, (22, 0)), (11, (21, 0)), (10, (20, 0)), (9, (19, 0)), (8, (18, 0)), (7, (14, 0)), (6, (13, 0)), (5, (12, 0)), (4, (11, 0)), (3, (10, 0)), (2, (9, 0)), (1, (8, 0)), (0, (7, 0))] : List (Nat × (Nat × Nat))), zgr t18 6 0 q.1 = q.2) (h : ∀ τ, zZ0 τ → zNC nc18 σ τ → zOnly (fun a b e => (a = 15 ∧ b = 2) ∨ (a = 22 ∧ e = 2)) t18 τ → (∀ q ∈ ([(12, (22, 0)), (11, (21, 0)), (10, (20, 0)), (9, (19, 0)), (8, (18, 0)), (7, (14, 0)), (6, (13, 0)), (5, (12, 0)), (4, (11, 0)), (3, (10, 0)), (2, (9, 0)), (1, (8, 0)), (0, (7, 0))] : List (Nat × (Nat × Nat))), zgr τ 6 0 q.1 = q.2) → (zgr τ 15 2 2 = (53, 2)) → (zgi τ 15 2 0 = -9) → (zgi τ 15 2 1 = 0) → (zgr τ 22 0 2 = (15, 2)) → zE false (d + 5) 4 134 M_X11_init 224 [some (.inr (.inr (6, 0))), some (.inl 3)] [] τ Q) : zE false (d + 5) 6 201 M_X11_init 224 [some (.inr (.inr (6, 0))), some (.inl 2)] [] t18 Q := by
  refine T_X11_init_224 (k1 := 1) (m1 := 64) (kc := 4) (ks := 134) ⟨fun g => absurd g (by decide), fun _ => ⟨l18 (12, (22, 0)) (by decide), ?_⟩⟩
  rw [show zcn t18 15 = 2 from n18.1 15 (by decide) (by decide)]
  refine S_X8_init (j := 2) (z18.new (by decide)) (by rw [zcn_new, if_pos rfl, n18.1 15 (by decide) (by decide)]; decide) (by rw [zcn_new, if_neg (by omega)]; exact n18.1 53 (by decide) (by decide)) (fun s19 zs os cs c53 f2 i0 i1 => ⟨nI_in (c := 2) (by omega) (by omega), ?_⟩)
  refine T_X11_init_242 ?_
  rw [show (2 : Int32).toNatClampNeg = 2 from rfl, show (2 + 1 : Int32) = 3 from rfl]
  have z19 : zZ0 (zsr s19 22 0 2 (15, 2)) := zs.sr (by show 0 < zcn s19 22; rw [cs 22 (by omega), zcn_new, if_neg (by omega), n18.1 22 (by decide) (by decide)]; decide)
  have n19 : zNC nc18 σ (zsr s19 22 0 2 (15, 2)) := ⟨fun c h1 h2 => by
    by_cases e53 : c = 53
    · subst e53; exact c53
    rw [zcn_sr, cs c e53]
    rw [zcn_new]
    by_cases e15 : c = 15
    · subst e15; rw [if_pos rfl, n18.1 15 (by decide) (by decide)]; rfl
    rw [if_neg e15, n18.1 c h1 h2]
    have : ∀ c, c < 54 → c ∉ ([53, 15] : List Nat) → nc17.getD (c - 6) 0 = nc18.getD (c - 6) 0 := by decide
    exact this c (by omega) (by simp [e53, e15]), fun c h => by
    rw [zcn_sr, cs c (by omega), zcn_new, if_neg (by omega), n18.2 c h]⟩
  have o19 : zOnly (fun a b e => (a = 15 ∧ b = 2) ∨ (a = 22 ∧ e = 2)) t18 (zsr s19 22 0 2 (15, 2)) := (z18.on (c := 15) (by decide)).tr ((os.mono (fun a b e q => by omega)).tr (zOnly.sr (by omega)))
  have l19 : ∀ q ∈ ([(12, (22, 0)), (11, (21, 0)), (10, (20, 0)), (9, (19, 0)), (8, (18, 0)), (7, (14, 0)), (6, (13, 0)), (5, (12, 0)), (4, (11, 0)), (3, (10, 0)), (2, (9, 0)), (1, (8, 0)), (0, (7, 0))] : List (Nat × (Nat × Nat))), zgr (zsr s19 22 0 2 (15, 2)) 6 0 q.1 = q.2 := fun q hq => by rw [zgr_sr, if_neg (by omega), os.r 6 0 q.1 (by omega), z18.gr (by decide)]; exact l18 q hq
  have g15_2 : zgr (zsr s19 22 0 2 (15, 2)) 15 2 2 = (53, 2) := f2
  have gi15_2_0 : zgi (zsr s19 22 0 2 (15, 2)) 15 2 0 = -9 := i0
  have gi15_2_1 : zgi (zsr s19 22 0 2 (15, 2)) 15 2 1 = 0 := i1
  have g22_2 : zgr (zsr s19 22 0 2 (15, 2)) 22 0 2 = (15, 2) := rfl
  exact h _ z19 n19 o19 l19 g15_2 gi15_2_0 gi15_2_1 g22_2
theorem P11_19 {t19 : zSt} {Q : Option zV → zSt → Prop} (z19 : zZ0 t19) (n19 : zNC nc18 σ t19) (l19 : ∀ q ∈ ([(12, (22, 0)), (11, (21, 0)), (10, (20, 0)), (9, (19, 0)), (8, (18, 0)), (7, (14, 0)), (6, (13, 0)), (5, (12, 0)), (4, (11, 0)), (3, (10, 0)), (2, (9, 0)), (1, (8, 0)), (0, (7, 0))] : List (Nat × (Nat × Nat))), zgr t19 6 0 q.1 = q.2) (h : ∀ τ, zZ0 τ → zNC nc19 σ τ → zOnly (fun a b e => (a = 15 ∧ b = 3) ∨ (a = 22 ∧ e = 3)) t19 τ → (∀ q ∈ ([(12, (22, 0)), (11, (21, 0)), (10, (20, 0)), (9, (19, 0)), (8, (18, 0)), (7, (14, 0)), (6, (13, 0)), (5, (12, 0)), (4, (11, 0)), (3, (10, 0)), (2, (9, 0)), (1, (8, 0)), (0, (7, 0))] : List (Nat × (Nat × Nat))), zgr τ 6 0 q.1 = q.2) → (zgr τ 15 3 2 = (53, 3)) → (zgi τ 15 3 0 = -9) → (zgi τ 15 3 1 = 0) → (zgr τ 22 0 3 = (15, 3)) → zE false (d + 5) 2 67 M_X11_init 224 [some (.inr (.inr (6, 0))), some (.inl 4)] [] τ Q) : zE false (d + 5) 4 134 M_X11_init 224 [some (.inr (.inr (6, 0))), some (.inl 3)] [] t19 Q := by
  refine T_X11_init_224 (k1 := 1) (m1 := 64) (kc := 2) (ks := 67) ⟨fun g => absurd g (by decide), fun _ => ⟨l19 (12, (22, 0)) (by decide), ?_⟩⟩
  rw [show zcn t19 15 = 3 from n19.1 15 (by decide) (by decide)]
  refine S_X8_init (j := 3) (z19.new (by decide)) (by rw [zcn_new, if_pos rfl, n19.1 15 (by decide) (by decide)]; decide) (by rw [zcn_new, if_neg (by omega)]; exact n19.1 53 (by decide) (by decide)) (fun s20 zs os cs c53 f2 i0 i1 => ⟨nI_in (c := 3) (by omega) (by omega), ?_⟩)
  refine T_X11_init_242 ?_
  rw [show (3 : Int32).toNatClampNeg = 3 from rfl, show (3 + 1 : Int32) = 4 from rfl]
  have z20 : zZ0 (zsr s20 22 0 3 (15, 3)) := zs.sr (by show 0 < zcn s20 22; rw [cs 22 (by omega), zcn_new, if_neg (by omega), n19.1 22 (by decide) (by decide)]; decide)
  have n20 : zNC nc19 σ (zsr s20 22 0 3 (15, 3)) := ⟨fun c h1 h2 => by
    by_cases e53 : c = 53
    · subst e53; exact c53
    rw [zcn_sr, cs c e53]
    rw [zcn_new]
    by_cases e15 : c = 15
    · subst e15; rw [if_pos rfl, n19.1 15 (by decide) (by decide)]; rfl
    rw [if_neg e15, n19.1 c h1 h2]
    have : ∀ c, c < 54 → c ∉ ([53, 15] : List Nat) → nc18.getD (c - 6) 0 = nc19.getD (c - 6) 0 := by decide
    exact this c (by omega) (by simp [e53, e15]), fun c h => by
    rw [zcn_sr, cs c (by omega), zcn_new, if_neg (by omega), n19.2 c h]⟩
  have o20 : zOnly (fun a b e => (a = 15 ∧ b = 3) ∨ (a = 22 ∧ e = 3)) t19 (zsr s20 22 0 3 (15, 3)) := (z19.on (c := 15) (by decide)).tr ((os.mono (fun a b e q => by omega)).tr (zOnly.sr (by omega)))
  have l20 : ∀ q ∈ ([(12, (22, 0)), (11, (21, 0)), (10, (20, 0)), (9, (19, 0)), (8, (18, 0)), (7, (14, 0)), (6, (13, 0)), (5, (12, 0)), (4, (11, 0)), (3, (10, 0)), (2, (9, 0)), (1, (8, 0)), (0, (7, 0))] : List (Nat × (Nat × Nat))), zgr (zsr s20 22 0 3 (15, 3)) 6 0 q.1 = q.2 := fun q hq => by rw [zgr_sr, if_neg (by omega), os.r 6 0 q.1 (by omega), z19.gr (by decide)]; exact l19 q hq
  have g15_3 : zgr (zsr s20 22 0 3 (15, 3)) 15 3 2 = (53, 3) := f2
  have gi15_3_0 : zgi (zsr s20 22 0 3 (15, 3)) 15 3 0 = -9 := i0
  have gi15_3_1 : zgi (zsr s20 22 0 3 (15, 3)) 15 3 1 = 0 := i1
  have g22_3 : zgr (zsr s20 22 0 3 (15, 3)) 22 0 3 = (15, 3) := rfl
  exact h _ z20 n20 o20 l20 g15_3 gi15_3_0 gi15_3_1 g22_3
theorem L_X11_init_all {K : zSt → Prop} (hZ : zZ0 σ) (h6 : zcn σ 6 = 1) (h0 : ∀ c, 7 ≤ c → c ≤ 53 → zcn σ c = 0) (hK : ∀ τ, zZ0 τ → zNC nc19 σ τ → zOnly (fun a b e => a = 6 ∨ a = 7 ∨ (8 ≤ a ∧ a ≤ 15) ∨ a = 18 ∨ a = 22 ∨ (31 ≤ a ∧ a ≤ 52)) σ τ → (∀ q ∈ ([(12, (22, 0)), (11, (21, 0)), (10, (20, 0)), (9, (19, 0)), (8, (18, 0)), (7, (14, 0)), (6, (13, 0)), (5, (12, 0)), (4, (11, 0)), (3, (10, 0)), (2, (9, 0)), (1, (8, 0)), (0, (7, 0))] : List (Nat × (Nat × Nat))), zgr τ 6 0 q.1 = q.2) → (∀ q ∈ ([(23, 4), (24, 5), (25, 6), (26, 9), (27, 12), (28, 13), (29, 14), (30, 16)] : List (Nat × Nat)), zgr τ 7 0 q.2 = (q.1, 0)) → (zRD zAst τ 0) → (zgr τ 8 0 0 = (31, 0)) → (zgr τ 8 0 1 = (33, 0)) → (∀ e, e < 99 → zgr τ 31 0 e = (32, e)) → (∀ e, e < 4 → zgr τ 33 0 e = (34, e)) → (zGr τ) → (zgr τ 9 0 2 = (35, 0)) → (zgr τ 9 0 0 = (7, 0)) → (zgr τ 9 0 1 = (8, 0)) → (∀ e, e < 60 → zgr τ 35 0 e = (36, e)) → (zgl τ 9 0 3 = 0) → (zgr τ 10 0 2 = (37, 0)) → (zgr τ 10 0 3 = (38, 0)) → (zgr τ 10 0 10 = (39, 0)) → (zgr τ 10 0 0 = (7, 0)) → (zgr τ 10 0 1 = (9, 0)) → (zgi τ 10 0 5 = 0) → (zgi τ 10 0 7 = 0) → (zgr τ 11 0 5 = (40, 0)) → (zgr τ 11 0 9 = (41, 0)) → (zgr τ 11 0 10 = (42, 0)) → (zgr τ 11 0 11 = (43, 0)) → (zgr τ 11 0 13 = (45, 0)) → (zgr τ 11 0 15 = (46, 0)) → (zgr τ 11 0 17 = (48, 0)) → (zgr τ 11 0 18 = (49, 0)) → (zgr τ 11 0 0 = (7, 0)) → (zgr τ 11 0 1 = (9, 0)) → (zgr τ 11 0 2 = (10, 0)) → (∀ e, e < 81 → zgr τ 43 0 e = (44, e)) → (∀ e, e < 9 → zgr τ 46 0 e = (47, e)) → (zgi τ 11 0 3 = 0) → (zgr τ 12 0 2 = (50, 0)) → (zgr τ 12 0 0 = (7, 0)) → (zgr τ 12 0 1 = (9, 0)) → (zgr τ 13 0 3 = (51, 0)) → (zgr τ 13 0 0 = (7, 0)) → (zgr τ 13 0 1 = (8, 0)) → (zgr τ 13 0 2 = (10, 0)) → (∀ e, e < 8 → zgr τ 51 0 e = (52, e)) → (zgi τ 13 0 4 = (-9)) → (zgi τ 14 0 0 = 0) → (zgi τ 6 0 13 = 0) → (zgi τ 6 0 14 = 0) → (zgi τ 6 0 15 = 0) → (∀ q ∈ ([(23, 4), (24, 5), (25, 6), (26, 9), (27, 12), (28, 13), (29, 14), (30, 16)] : List (Nat × Nat)), zgr τ 7 1 q.2 = (q.1, 1)) → (zgr τ 18 0 0 = (7, 1)) → (∀ q ∈ ([(23, 4), (24, 5), (25, 6), (26, 9), (27, 12), (28, 13), (29, 14), (30, 16)] : List (Nat × Nat)), zgr τ 7 2 q.2 = (q.1, 2)) → (zgr τ 18 0 1 = (7, 2)) → (zgr τ 15 0 2 = (53, 0)) → (zgi τ 15 0 0 = -9) → (zgi τ 15 0 1 = 0) → (zgr τ 22 0 0 = (15, 0)) → (zgr τ 15 1 2 = (53, 1)) → (zgi τ 15 1 0 = -9) → (zgi τ 15 1 1 = 0) → (zgr τ 22 0 1 = (15, 1)) → (zgr τ 15 2 2 = (53, 2)) → (zgi τ 15 2 0 = -9) → (zgi τ 15 2 1 = 0) → (zgr τ 22 0 2 = (15, 2)) → (zgr τ 15 3 2 = (53, 3)) → (zgi τ 15 3 0 = -9) → (zgi τ 15 3 1 = 0) → (zgr τ 22 0 3 = (15, 3)) → K τ) : zCv false (d + 5) 335 78329 M_X11_init [.inr (.inr (6, 0))] σ K := by
  have n0 : zNC nc0 σ σ := ⟨fun c h1 h2 => by
    by_cases e : c = 6
    · subst e; exact h6
    · rw [h0 c (by omega) h2]
      have : ∀ c, c < 54 → 7 ≤ c → 0 = nc0.getD (c - 6) 0 := by decide
      exact this c (by omega) (by omega), fun _ _ => rfl⟩
  have z0 := hZ
  have l0 : ∀ q ∈ ([] : List (Nat × (Nat × Nat))), zgr σ 6 0 q.1 = q.2 := fun q hq => absurd hq List.not_mem_nil
  refine zC_intro pl_X11 (Nat.le_of_ble_eq_true rfl) ?_
  refine P11_0 z0 n0 l0 (fun t1 z1 n1 o1 l1 rr7_0 rd1 => ?_)
  refine P11_1 z1 n1 l1 (fun t2 z2 n2 o2 l2 g80 g81 g31 g33 gG => ?_)
  refine P11_2 z2 n2 l2 (fun t3 z3 n3 o3 l3 g9_2 g9_0 g9_1 gw35 gj9_3 => ?_)
  refine P11_3 z3 n3 l3 (fun t4 z4 n4 o4 l4 g10_2 g10_3 g10_10 g10_0 g10_1 gi10_5 gi10_7 => ?_)
  refine P11_4 z4 n4 l4 (fun t5 z5 n5 o5 l5 g11_5 g11_9 g11_10 g11_11 g11_13 g11_15 g11_17 g11_18 g11_0 g11_1 g11_2 gw43 gw46 gi11_3 => ?_)
  refine P11_5 z5 n5 l5 (fun t6 z6 n6 o6 l6 g12_2 g12_0 g12_1 => ?_)
  refine P11_6 z6 n6 l6 (fun t7 z7 n7 o7 l7 g13_3 g13_0 g13_1 g13_2 gw51 gi13_4 => ?_)
  refine P11_7 z7 n7 l7 (fun t8 z8 n8 o8 l8 gi14_0 => ?_)
  refine P11_8 z8 n8 l8 (fun t9 z9 n9 o9 l9 => ?_)
  refine P11_9 z9 n9 l9 (fun t10 z10 n10 o10 l10 => ?_)
  refine P11_10 z10 n10 l10 (fun t11 z11 n11 o11 l11 => ?_)
  refine P11_11 z11 n11 l11 (fun t12 z12 n12 o12 l12 => ?_)
  refine P11_12 z12 n12 l12 (fun t13 z13 n13 o13 l13 => ?_)
  refine P11_13 z13 n13 l13 (fun t14 z14 n14 o14 l14 gi6_13 gi6_14 gi6_15 => ?_)
  refine P11_14 z14 n14 l14 (fun t15 z15 n15 o15 l15 rr7_1 g18_0 => ?_)
  refine P11_15 z15 n15 l15 (fun t16 z16 n16 o16 l16 rr7_2 g18_1 => ?_)
  refine T_X11_init_198 (k1 := 8) (m1 := 165) (kc := 10) (ks := 335) ⟨fun _ => zE.room (kc := 10) (ks := 335) ?_ (by omega) (by omega), fun g => absurd (by decide) g⟩
  refine P11_16 z16 n16 l16 (fun t17 z17 n17 o17 l17 g15_0 gi15_0_0 gi15_0_1 g22_0 => ?_)
  refine P11_17 z17 n17 l17 (fun t18 z18 n18 o18 l18 g15_1 gi15_1_0 gi15_1_1 g22_1 => ?_)
  refine P11_18 z18 n18 l18 (fun t19 z19 n19 o19 l19 g15_2 gi15_2_0 gi15_2_1 g22_2 => ?_)
  refine P11_19 z19 n19 l19 (fun t20 z20 n20 o20 l20 g15_3 gi15_3_0 gi15_3_1 g22_3 => ?_)
  have F20 : zOnly (fun a b e => False) t20 t20 := zOnly.rf
  have F19 : zOnly (fun a b e => (a = 15 ∧ 3 ≤ b) ∨ (a = 22 ∧ 3 ≤ e)) t19 t20 := (o20.mono (fun a b e q => by omega)).tr (F20.mono (fun a b e q => by exact absurd q id))
  have F18 : zOnly (fun a b e => (a = 15 ∧ 2 ≤ b) ∨ (a = 22 ∧ 2 ≤ e)) t18 t20 := (o19.mono (fun a b e q => by omega)).tr (F19.mono (fun a b e q => by omega))
  have F17 : zOnly (fun a b e => (a = 15 ∧ 1 ≤ b) ∨ (a = 22 ∧ 1 ≤ e)) t17 t20 := (o18.mono (fun a b e q => by omega)).tr (F18.mono (fun a b e q => by omega))
  have F16 : zOnly (fun a b e => a = 15 ∨ a = 22) t16 t20 := (o17.mono (fun a b e q => by omega)).tr (F17.mono (fun a b e q => by omega))
  have F15 : zOnly (fun a b e => (a = 7 ∧ 2 ≤ b) ∨ (a = 18 ∧ 1 ≤ e) ∨ a = 15 ∨ a = 22) t15 t20 := (o16.mono (fun a b e q => by omega)).tr (F16.mono (fun a b e q => by omega))
  have F14 : zOnly (fun a b e => (a = 7 ∧ 1 ≤ b) ∨ a = 15 ∨ a = 18 ∨ a = 22) t14 t20 := (o15.mono (fun a b e q => by omega)).tr (F15.mono (fun a b e q => by omega))
  have F13 : zOnly (fun a b e => a = 6 ∨ (a = 7 ∧ 1 ≤ b) ∨ a = 15 ∨ a = 18 ∨ a = 22 ∨ (14 < a ∧ a ≤ 14) ∨ (52 < a ∧ a ≤ 52)) t13 t20 := (o14.mono (fun a b e q => by omega)).tr (F14.mono (fun a b e q => by omega))
  have F12 : zOnly (fun a b e => a = 6 ∨ (a = 7 ∧ 1 ≤ b) ∨ a = 15 ∨ a = 18 ∨ a = 22 ∨ (14 < a ∧ a ≤ 14) ∨ (52 < a ∧ a ≤ 52)) t12 t20 := (o13.mono (fun a b e q => by omega)).tr (F13.mono (fun a b e q => by omega))
  have F11 : zOnly (fun a b e => a = 6 ∨ (a = 7 ∧ 1 ≤ b) ∨ a = 15 ∨ a = 18 ∨ a = 22 ∨ (14 < a ∧ a ≤ 14) ∨ (52 < a ∧ a ≤ 52)) t11 t20 := (o12.mono (fun a b e q => by omega)).tr (F12.mono (fun a b e q => by omega))
  have F10 : zOnly (fun a b e => a = 6 ∨ (a = 7 ∧ 1 ≤ b) ∨ a = 15 ∨ a = 18 ∨ a = 22 ∨ (14 < a ∧ a ≤ 14) ∨ (52 < a ∧ a ≤ 52)) t10 t20 := (o11.mono (fun a b e q => by omega)).tr (F11.mono (fun a b e q => by omega))
  have F9 : zOnly (fun a b e => a = 6 ∨ (a = 7 ∧ 1 ≤ b) ∨ a = 15 ∨ a = 18 ∨ a = 22 ∨ (14 < a ∧ a ≤ 14) ∨ (52 < a ∧ a ≤ 52)) t9 t20 := (o10.mono (fun a b e q => by omega)).tr (F10.mono (fun a b e q => by omega))
  have F8 : zOnly (fun a b e => a = 6 ∨ (a = 7 ∧ 1 ≤ b) ∨ a = 15 ∨ a = 18 ∨ a = 22 ∨ (14 < a ∧ a ≤ 14) ∨ (52 < a ∧ a ≤ 52)) t8 t20 := (o9.mono (fun a b e q => by omega)).tr (F9.mono (fun a b e q => by omega))
  have F7 : zOnly (fun a b e => a = 6 ∨ (a = 7 ∧ 1 ≤ b) ∨ a = 15 ∨ a = 18 ∨ a = 22 ∨ (13 < a ∧ a ≤ 14) ∨ (52 < a ∧ a ≤ 52)) t7 t20 := (o8.mono (fun a b e q => by omega)).tr (F8.mono (fun a b e q => by omega))
  have F6 : zOnly (fun a b e => a = 6 ∨ (a = 7 ∧ 1 ≤ b) ∨ a = 15 ∨ a = 18 ∨ a = 22 ∨ (12 < a ∧ a ≤ 14) ∨ (50 < a ∧ a ≤ 52)) t6 t20 := (o7.mono (fun a b e q => by omega)).tr (F7.mono (fun a b e q => by omega))
  have F5 : zOnly (fun a b e => a = 6 ∨ (a = 7 ∧ 1 ≤ b) ∨ a = 15 ∨ a = 18 ∨ a = 22 ∨ (11 < a ∧ a ≤ 14) ∨ (49 < a ∧ a ≤ 52)) t5 t20 := (o6.mono (fun a b e q => by omega)).tr (F6.mono (fun a b e q => by omega))
  have F4 : zOnly (fun a b e => a = 6 ∨ (a = 7 ∧ 1 ≤ b) ∨ a = 15 ∨ a = 18 ∨ a = 22 ∨ (10 < a ∧ a ≤ 14) ∨ (39 < a ∧ a ≤ 52)) t4 t20 := (o5.mono (fun a b e q => by omega)).tr (F5.mono (fun a b e q => by omega))
  have F3 : zOnly (fun a b e => a = 6 ∨ (a = 7 ∧ 1 ≤ b) ∨ a = 15 ∨ a = 18 ∨ a = 22 ∨ (9 < a ∧ a ≤ 14) ∨ (36 < a ∧ a ≤ 52)) t3 t20 := (o4.mono (fun a b e q => by omega)).tr (F4.mono (fun a b e q => by omega))
  have F2 : zOnly (fun a b e => a = 6 ∨ (a = 7 ∧ 1 ≤ b) ∨ a = 15 ∨ a = 18 ∨ a = 22 ∨ (8 < a ∧ a ≤ 14) ∨ (34 < a ∧ a ≤ 52)) t2 t20 := (o3.mono (fun a b e q => by omega)).tr (F3.mono (fun a b e q => by omega))
  have F1 : zOnly (fun a b e => a = 6 ∨ (a = 7 ∧ 1 ≤ b) ∨ a = 15 ∨ a = 18 ∨ a = 22 ∨ (7 < a ∧ a ≤ 14) ∨ (30 < a ∧ a ≤ 52)) t1 t20 := (o2.mono (fun a b e q => by omega)).tr (F2.mono (fun a b e q => by omega))
  have F0 : zOnly (fun a b e => a = 6 ∨ a = 7 ∨ (8 ≤ a ∧ a ≤ 15) ∨ a = 18 ∨ a = 22 ∨ (31 ≤ a ∧ a ≤ 52)) σ t20 := (o1.mono (fun a b e q => by omega)).tr (F1.mono (fun a b e q => by omega))
  have E_rr7_0 : ∀ q ∈ ([(23, 4), (24, 5), (25, 6), (26, 9), (27, 12), (28, 13), (29, 14), (30, 16)] : List (Nat × Nat)), zgr t20 7 0 q.2 = (q.1, 0) := fun q hq => by rw [F1.r 7 0 q.2 (by omega)]; exact rr7_0 q hq
  have m1 : ∀ c, zcn t1 c ≤ zcn t20 c := fun c => by
    by_cases h : 6 ≤ c ∧ c ≤ 53
    · rw [n1.1 c h.1 h.2, n20.1 c h.1 h.2]
      have : ∀ c, c < 54 → 6 ≤ c → nc1.getD (c - 6) 0 ≤ nc19.getD (c - 6) 0 := by decide
      exact this c (by omega) h.1
    · rw [n1.2 c (by omega), n20.2 c (by omega)]; exact Nat.le_refl _
  have E_rd1 : zRD zAst t20 0 := rd1.of (fun c => m1 c) (fun c j k hb _ => by
    have hn : ¬ (c = 6 ∨ (c = 7 ∧ 1 ≤ j) ∨ c = 15 ∨ c = 18 ∨ c = 22 ∨ (7 < c ∧ c ≤ 14) ∨ (30 < c ∧ c ≤ 52)) := by unfold zBD at hb; omega
    exact F1 c j k hn)
  have E_g80 : zgr t20 8 0 0 = (31, 0) := by rw [F2.r 8 0 0 (by omega)]; exact g80
  have E_g81 : zgr t20 8 0 1 = (33, 0) := by rw [F2.r 8 0 1 (by omega)]; exact g81
  have E_g31 : ∀ e, e < 99 → zgr t20 31 0 e = (32, e) := fun e he => by rw [F2.r 31 0 e (by omega)]; exact g31 e he
  have E_g33 : ∀ e, e < 4 → zgr t20 33 0 e = (34, e) := fun e he => by rw [F2.r 33 0 e (by omega)]; exact g33 e he
  have E_gG : zGr t20 := gG.only F2 (fun j k => ⟨by omega, by omega⟩)
  have E_g9_2 : zgr t20 9 0 2 = (35, 0) := by rw [F3.r 9 0 2 (by omega)]; exact g9_2
  have E_g9_0 : zgr t20 9 0 0 = (7, 0) := by rw [F3.r 9 0 0 (by omega)]; exact g9_0
  have E_g9_1 : zgr t20 9 0 1 = (8, 0) := by rw [F3.r 9 0 1 (by omega)]; exact g9_1
  have E_gw35 : ∀ e, e < 60 → zgr t20 35 0 e = (36, e) := fun e he => by rw [F3.r 35 0 e (by omega)]; exact gw35 e he
  have E_gj9_3 : zgl t20 9 0 3 = 0 := by rw [F3.l 9 0 3 (by omega)]; exact gj9_3
  have E_g10_2 : zgr t20 10 0 2 = (37, 0) := by rw [F4.r 10 0 2 (by omega)]; exact g10_2
  have E_g10_3 : zgr t20 10 0 3 = (38, 0) := by rw [F4.r 10 0 3 (by omega)]; exact g10_3
  have E_g10_10 : zgr t20 10 0 10 = (39, 0) := by rw [F4.r 10 0 10 (by omega)]; exact g10_10
  have E_g10_0 : zgr t20 10 0 0 = (7, 0) := by rw [F4.r 10 0 0 (by omega)]; exact g10_0
  have E_g10_1 : zgr t20 10 0 1 = (9, 0) := by rw [F4.r 10 0 1 (by omega)]; exact g10_1
  have E_gi10_5 : zgi t20 10 0 5 = 0 := by rw [F4.i 10 0 5 (by omega)]; exact gi10_5
  have E_gi10_7 : zgi t20 10 0 7 = 0 := by rw [F4.i 10 0 7 (by omega)]; exact gi10_7
  have E_g11_5 : zgr t20 11 0 5 = (40, 0) := by rw [F5.r 11 0 5 (by omega)]; exact g11_5
  have E_g11_9 : zgr t20 11 0 9 = (41, 0) := by rw [F5.r 11 0 9 (by omega)]; exact g11_9
  have E_g11_10 : zgr t20 11 0 10 = (42, 0) := by rw [F5.r 11 0 10 (by omega)]; exact g11_10
  have E_g11_11 : zgr t20 11 0 11 = (43, 0) := by rw [F5.r 11 0 11 (by omega)]; exact g11_11
  have E_g11_13 : zgr t20 11 0 13 = (45, 0) := by rw [F5.r 11 0 13 (by omega)]; exact g11_13
  have E_g11_15 : zgr t20 11 0 15 = (46, 0) := by rw [F5.r 11 0 15 (by omega)]; exact g11_15
  have E_g11_17 : zgr t20 11 0 17 = (48, 0) := by rw [F5.r 11 0 17 (by omega)]; exact g11_17
  have E_g11_18 : zgr t20 11 0 18 = (49, 0) := by rw [F5.r 11 0 18 (by omega)]; exact g11_18
  have E_g11_0 : zgr t20 11 0 0 = (7, 0) := by rw [F5.r 11 0 0 (by omega)]; exact g11_0
  have E_g11_1 : zgr t20 11 0 1 = (9, 0) := by rw [F5.r 11 0 1 (by omega)]; exact g11_1
  have E_g11_2 : zgr t20 11 0 2 = (10, 0) := by rw [F5.r 11 0 2 (by omega)]; exact g11_2
  have E_gw43 : ∀ e, e < 81 → zgr t20 43 0 e = (44, e) := fun e he => by rw [F5.r 43 0 e (by omega)]; exact gw43 e he
  have E_gw46 : ∀ e, e < 9 → zgr t20 46 0 e = (47, e) := fun e he => by rw [F5.r 46 0 e (by omega)]; exact gw46 e he
  have E_gi11_3 : zgi t20 11 0 3 = 0 := by rw [F5.i 11 0 3 (by omega)]; exact gi11_3
  have E_g12_2 : zgr t20 12 0 2 = (50, 0) := by rw [F6.r 12 0 2 (by omega)]; exact g12_2
  have E_g12_0 : zgr t20 12 0 0 = (7, 0) := by rw [F6.r 12 0 0 (by omega)]; exact g12_0
  have E_g12_1 : zgr t20 12 0 1 = (9, 0) := by rw [F6.r 12 0 1 (by omega)]; exact g12_1
  have E_g13_3 : zgr t20 13 0 3 = (51, 0) := by rw [F7.r 13 0 3 (by omega)]; exact g13_3
  have E_g13_0 : zgr t20 13 0 0 = (7, 0) := by rw [F7.r 13 0 0 (by omega)]; exact g13_0
  have E_g13_1 : zgr t20 13 0 1 = (8, 0) := by rw [F7.r 13 0 1 (by omega)]; exact g13_1
  have E_g13_2 : zgr t20 13 0 2 = (10, 0) := by rw [F7.r 13 0 2 (by omega)]; exact g13_2
  have E_gw51 : ∀ e, e < 8 → zgr t20 51 0 e = (52, e) := fun e he => by rw [F7.r 51 0 e (by omega)]; exact gw51 e he
  have E_gi13_4 : zgi t20 13 0 4 = (-9) := by rw [F7.i 13 0 4 (by omega)]; exact gi13_4
  have E_gi14_0 : zgi t20 14 0 0 = 0 := by rw [F8.i 14 0 0 (by omega)]; exact gi14_0
  have E_gi6_13 : zgi t20 6 0 13 = 0 := by rw [F14.i 6 0 13 (by omega)]; exact gi6_13
  have E_gi6_14 : zgi t20 6 0 14 = 0 := by rw [F14.i 6 0 14 (by omega)]; exact gi6_14
  have E_gi6_15 : zgi t20 6 0 15 = 0 := by rw [F14.i 6 0 15 (by omega)]; exact gi6_15
  have E_rr7_1 : ∀ q ∈ ([(23, 4), (24, 5), (25, 6), (26, 9), (27, 12), (28, 13), (29, 14), (30, 16)] : List (Nat × Nat)), zgr t20 7 1 q.2 = (q.1, 1) := fun q hq => by rw [F15.r 7 1 q.2 (by omega)]; exact rr7_1 q hq
  have E_g18_0 : zgr t20 18 0 0 = (7, 1) := by rw [F15.r 18 0 0 (by omega)]; exact g18_0
  have E_rr7_2 : ∀ q ∈ ([(23, 4), (24, 5), (25, 6), (26, 9), (27, 12), (28, 13), (29, 14), (30, 16)] : List (Nat × Nat)), zgr t20 7 2 q.2 = (q.1, 2) := fun q hq => by rw [F16.r 7 2 q.2 (by omega)]; exact rr7_2 q hq
  have E_g18_1 : zgr t20 18 0 1 = (7, 2) := by rw [F16.r 18 0 1 (by omega)]; exact g18_1
  have E_g15_0 : zgr t20 15 0 2 = (53, 0) := by rw [F17.r 15 0 2 (by omega)]; exact g15_0
  have E_gi15_0_0 : zgi t20 15 0 0 = -9 := by rw [F17.i 15 0 0 (by omega)]; exact gi15_0_0
  have E_gi15_0_1 : zgi t20 15 0 1 = 0 := by rw [F17.i 15 0 1 (by omega)]; exact gi15_0_1
  have E_g22_0 : zgr t20 22 0 0 = (15, 0) := by rw [F17.r 22 0 0 (by omega)]; exact g22_0
  have E_g15_1 : zgr t20 15 1 2 = (53, 1) := by rw [F18.r 15 1 2 (by omega)]; exact g15_1
  have E_gi15_1_0 : zgi t20 15 1 0 = -9 := by rw [F18.i 15 1 0 (by omega)]; exact gi15_1_0
  have E_gi15_1_1 : zgi t20 15 1 1 = 0 := by rw [F18.i 15 1 1 (by omega)]; exact gi15_1_1
  have E_g22_1 : zgr t20 22 0 1 = (15, 1) := by rw [F18.r 22 0 1 (by omega)]; exact g22_1
  have E_g15_2 : zgr t20 15 2 2 = (53, 2) := by rw [F19.r 15 2 2 (by omega)]; exact g15_2
  have E_gi15_2_0 : zgi t20 15 2 0 = -9 := by rw [F19.i 15 2 0 (by omega)]; exact gi15_2_0
  have E_gi15_2_1 : zgi t20 15 2 1 = 0 := by rw [F19.i 15 2 1 (by omega)]; exact gi15_2_1
  have E_g22_2 : zgr t20 22 0 2 = (15, 2) := by rw [F19.r 22 0 2 (by omega)]; exact g22_2
  have E_g15_3 : zgr t20 15 3 2 = (53, 3) := g15_3
  have E_gi15_3_0 : zgi t20 15 3 0 = -9 := gi15_3_0
  have E_gi15_3_1 : zgi t20 15 3 1 = 0 := gi15_3_1
  have E_g22_3 : zgr t20 22 0 3 = (15, 3) := g22_3
  refine T_X11_init_224 (k1 := 1) (m1 := 64) (kc := 0) (ks := 0) ⟨fun _ => ⟨rfl, hK t20 z20 n20 F0 l20 E_rr7_0 E_rd1 E_g80 E_g81 E_g31 E_g33 E_gG E_g9_2 E_g9_0 E_g9_1 E_gw35 E_gj9_3 E_g10_2 E_g10_3 E_g10_10 E_g10_0 E_g10_1 E_gi10_5 E_gi10_7 E_g11_5 E_g11_9 E_g11_10 E_g11_11 E_g11_13 E_g11_15 E_g11_17 E_g11_18 E_g11_0 E_g11_1 E_g11_2 E_gw43 E_gw46 E_gi11_3 E_g12_2 E_g12_0 E_g12_1 E_g13_3 E_g13_0 E_g13_1 E_g13_2 E_gw51 E_gi13_4 E_gi14_0 E_gi6_13 E_gi6_14 E_gi6_15 E_rr7_1 E_g18_0 E_rr7_2 E_g18_1 E_g15_0 E_gi15_0_0 E_gi15_0_1 E_g22_0 E_g15_1 E_gi15_1_0 E_gi15_1_1 E_g22_1 E_g15_2 E_gi15_2_0 E_gi15_2_1 E_g22_2 E_g15_3 E_gi15_3_0 E_gi15_3_1 E_g22_3⟩, fun g => absurd (by decide) g⟩
end zIb
