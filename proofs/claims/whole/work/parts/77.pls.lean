/-! placings of a group: trials one behind the other, some of them placings -/
def rkN (p : Nat → Bool) : Nat → Nat → Nat
  | 0, _ => 0
  | n + 1, i => if p n = true ∧ fb_ct p n = i then n else rkN p n i
theorem rkN_ok {p : Nat → Bool} : ∀ {n i : Nat}, i < fb_ct p n → rkN p n i < n ∧ p (rkN p n i) = true ∧ fb_ct p (rkN p n i) = i
  | 0, i, h => by simp [fb_ct] at h
  | n + 1, i, h => by
    unfold rkN
    by_cases c : p n = true ∧ fb_ct p n = i
    · rw [if_pos c]
      exact ⟨by omega, c⟩
    · rw [if_neg c]
      have h2 : i < fb_ct p n := by
        rw [fb_ct_succ] at h
        by_cases hp : p n = true
        · rw [if_pos hp] at h
          have : fb_ct p n ≠ i := fun e => c ⟨hp, e⟩
          omega
        · rw [if_neg hp] at h
          exact h
      obtain ⟨a, b, e⟩ := rkN_ok h2
      exact ⟨by omega, b, e⟩
theorem rkN_of {p : Nat → Bool} {n u : Nat} (hu : u < n) (hp : p u = true) : fb_ct p u < fb_ct p n ∧ rkN p n (fb_ct p u) = u := by
  have h1 : fb_ct p u < fb_ct p n := by
    have := fb_ct_mono p (show u + 1 ≤ n by omega)
    rw [fb_ct_succ, if_pos hp] at this
    omega
  obtain ⟨a, b, e⟩ := rkN_ok h1
  exact ⟨h1, fb_ct_kth_one b hp e⟩
/-- how many members, which they are -/
noncomputable def gn (A : zAb) (t : Nat) : Nat := fb_ct (grB A t) (aN A)
noncomputable def mbr (A : zAb) (t i : Nat) : Nat := rkN (grB A t) (aN A) i
theorem mbr_ok {A : zAb} {t i : Nat} (h : i < gn A t) : mbr A t i < aN A ∧ gr A t (mbr A t i) ∧ fb_ct (grB A t) (mbr A t i) = i := by
  obtain ⟨a, b, c⟩ := rkN_ok (p := grB A t) (n := aN A) h
  exact ⟨a, grB_iff.mp b, c⟩
theorem mbr_of {A : zAb} {t u : Nat} (hu : u < aN A) (h : gr A t u) : fb_ct (grB A t) u < gn A t ∧ mbr A t (fb_ct (grB A t) u) = u := rkN_of hu (grB_iff.mpr h)
theorem mbr_inj {A : zAb} {t i j : Nat} (hi : i < gn A t) (hj : j < gn A t) (h : mbr A t i = mbr A t j) : i = j := by
  rw [← (mbr_ok hi).2.2, ← (mbr_ok hj).2.2, h]
theorem gn_le (A : zAb) (t : Nat) : gn A t ≤ aN A := fb_ct_le _ _
theorem gn_pos {A : zAb} {t : Nat} (ht : t < aN A) : 0 < gn A t := fb_ct_pos.mpr ⟨t, ht, grB_iff.mpr (gr_self A t)⟩
theorem gr_anchor {A : zAb} {t : Nat} (ht : t < aN A) (h : 1 < gn A t) {u : Nat} (hg : gr A t u) : aK A u = 0 := by
  by_cases k : aK A t = 0
  · exact (gr_k hg).mpr k
  · exfalso
    have hall : ∀ v, gr A t v → v = t := fun v hv => by
      unfold gr at hv
      rw [if_pos (by omega)] at hv
      exact hv
    have h0 := mbr_ok (A := A) (t := t) (i := 0) (by omega)
    have h1 := mbr_ok (A := A) (t := t) (i := 1) h
    have e0 := hall _ h0.2.1
    have e1 := hall _ h1.2.1
    have := mbr_inj (A := A) (t := t) (i := 0) (j := 1) (by omega) h (by rw [e0, e1])
    omega
theorem gr_one {A : zAb} {t u : Nat} (ht : t < aN A) (h : gn A t ≤ 1) (hu : u < aN A) : gr A t u ↔ mbr A t 0 = u := by
  constructor
  · intro g
    obtain ⟨a, b⟩ := mbr_of hu g
    rw [← b]
    congr 1
    omega
  · intro e
    rw [← e]
    exact (mbr_ok (gn_pos ht)).2.1
/-- a measure against a pair of cells of two members -/
def bdM (A : zAb) (a b c e m : Nat) : Bool := mO A m && ((decide (mA A m = a) && decide (mB A m = b) && !kept A m c e) || (decide (mB A m = a) && decide (mA A m = b) && !kept A m e c))
def prN (A : zAb) (a b n c e : Nat) : Bool := !aAny (bdM A a b c e) n
noncomputable def prK (A : zAb) (t i j c e : Nat) : Bool := prN A (mbr A t i) (mbr A t j) (aM A) c e
/-- cells of anchors out of the group -/
noncomputable def shut (A : zAb) (t c : Nat) : Bool := aAny (fun u => decide (0 < aK A u) && decide (aC A u = (c : Int)) && !grB A t u) (aN A)
/-- a member stays on its cell -/
noncomputable def stB (A : zAb) (t : Nat) (s : Nat → Nat) (d : Nat) : Bool := !(aAl A && shut A t (s d)) && !aAny (fun i => !prK A t i d (s i) (s d) || (aAl A && decide (s i = s d))) d
def zup (s : Nat → Nat) (d c : Nat) : Nat → Nat := fun i => if i = d then c else s i
def rst (s : Nat → Nat) (d : Nat) : Nat → Nat := fun i => if i < d then s i else 0
theorem zup_rst (s : Nat → Nat) (d c : Nat) : zup (rst s d) d c = rst (zup s d c) (d + 1) := by
  funext i
  unfold zup rst
  by_cases e : i = d
  · simp [e]
  · by_cases l : i < d
    · simp [e, l, show i < d + 1 by omega]
    · simp [e, l, show ¬ i < d + 1 by omega]
theorem rst_cong {s s' : Nat → Nat} {d : Nat} (h : ∀ i, i < d → s i = s' i) : rst s d = rst s' d := by
  funext i
  unfold rst
  by_cases l : i < d
  · rw [if_pos l, if_pos l, h i l]
  · rw [if_neg l, if_neg l]
theorem rst_rst (s : Nat → Nat) (d : Nat) : rst (rst s d) d = rst s d := rst_cong (fun i hi => by unfold rst; rw [if_pos hi])
theorem rst_le {s : Nat → Nat} {d e : Nat} (h : d ≤ e) : rst (rst s e) d = rst s d := rst_cong (fun i hi => by unfold rst; rw [if_pos (by omega)])
theorem stB_cong {A : zAb} {t : Nat} {s s' : Nat → Nat} {d : Nat} (h : ∀ i, i ≤ d → s i = s' i) : stB A t s d = stB A t s' d := by
  have e : ∀ n, n ≤ d → aAny (fun i => !prK A t i d (s i) (s d) || (aAl A && decide (s i = s d))) n = aAny (fun i => !prK A t i d (s' i) (s' d) || (aAl A && decide (s' i = s' d))) n := by
    intro n
    induction n with
    | zero => intro _; rfl
    | succ n ih =>
      intro hn
      unfold aAny
      rw [ih (by omega), h n (by omega), h d (Nat.le_refl d)]
  unfold stB
  rw [e d (Nat.le_refl d), h d (Nat.le_refl d)]
abbrev zEv : Type := List (Option (Nat → Nat))
def evC (cs st : Nat → Bool) (nx : Nat → zEv) : Nat → zEv
  | 0 => []
  | k + 1 => (if cs (63 - k) = true then (if st (63 - k) = true then nx (63 - k) else [none]) else []) ++ evC cs st nx k
noncomputable def evs (A : zAb) (t : Nat) : Nat → Nat → (Nat → Nat) → Nat → zEv
  | 0, _, _, _ => []
  | r + 1, d, s, k => evC (gB A (mO A) (mbr A t d)) (fun c => stB A t (zup s d c) d) (fun c => if r = 0 then [some (zup s d c)] else none :: evs A t r (d + 1) (zup s d c) 64) k
theorem evs_0 (A : zAb) (t r d : Nat) (s : Nat → Nat) : evs A t r d s 0 = [] := by
  cases r <;> rfl
theorem evs_s (A : zAb) (t r d : Nat) (s : Nat → Nat) (k : Nat) : evs A t (r + 1) d s (k + 1) = (if gB A (mO A) (mbr A t d) (63 - k) = true then (if stB A t (zup s d (63 - k)) d = true then (if r = 0 then [some (zup s d (63 - k))] else none :: evs A t r (d + 1) (zup s d (63 - k)) 64) else [none]) else []) ++ evs A t (r + 1) d s k := rfl
/-- what is still to be tried on the levels above -/
noncomputable def evU (A : zAb) (t : Nat) : Nat → (Nat → Nat) → zEv
  | 0, _ => []
  | d + 1, s => evs A t (gn A t - d) d (rst s d) (63 - s d) ++ evU A t d s
theorem evU_cong {A : zAb} {t : Nat} {s s' : Nat → Nat} : ∀ {d : Nat}, (∀ i, i < d → s i = s' i) → evU A t d s = evU A t d s'
  | 0, _ => rfl
  | d + 1, h => by
    unfold evU
    rw [rst_cong (s := s) (s' := s') (fun i hi => h i (by omega)), h d (by omega), evU_cong (d := d) (fun i hi => h i (by omega))]
/-- all trials, all placings -/
noncomputable def evT (A : zAb) (t : Nat) : zEv := evs A t (gn A t) 0 (fun _ => 0) 64
noncomputable def plF (A : zAb) (t : Nat) : List (Nat → Nat) := (evT A t).filterMap id
/-- a group whose placings are not all found -/
def spB (A : zAb) (t : Nat) : Prop := 9 < gn A t ∨ 60000 < (evT A t).length
/-- counts of placings -/
def cnO (F : List (Nat → Nat)) (i c : Nat) : Nat := F.countP (fun s => decide (s i = c))
def cnD (F : List (Nat → Nat)) (i j f : Nat) : Nat := F.countP (fun s => decide (zdist (s i) (s j) = f))
def cnP (F : List (Nat → Nat)) (a : Int) (b : Int) (c e : Nat) : Bool := decide (0 ≤ a) && F.any (fun s => decide (s a.toNat = c) && decide (s b.toNat = e))
theorem cnO_le (F : List (Nat → Nat)) (i c : Nat) : cnO F i c ≤ F.length := List.countP_le_length
theorem cnD_le (F : List (Nat → Nat)) (i j f : Nat) : cnD F i j f ≤ F.length := List.countP_le_length
theorem cnO_add (F : List (Nat → Nat)) (s : Nat → Nat) (i c : Nat) : cnO (F ++ [s]) i c = cnO F i c + (if s i = c then 1 else 0) := by
  unfold cnO
  rw [List.countP_append]
  by_cases h : s i = c <;> simp [h]
theorem cnD_add (F : List (Nat → Nat)) (s : Nat → Nat) (i j f : Nat) : cnD (F ++ [s]) i j f = cnD F i j f + (if zdist (s i) (s j) = f then 1 else 0) := by
  unfold cnD
  rw [List.countP_append]
  by_cases h : zdist (s i) (s j) = f <;> simp [h]
theorem cnP_add (F : List (Nat → Nat)) (s : Nat → Nat) (a b : Int) (c e : Nat) : cnP (F ++ [s]) a b c e = (cnP F a b c e || (decide (0 ≤ a) && decide (s a.toNat = c) && decide (s b.toNat = e))) := by
  unfold cnP
  rw [List.any_append]
  by_cases h : 0 ≤ a <;> simp [h]
