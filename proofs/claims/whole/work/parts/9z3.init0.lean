/-! what is made before the constants stand: all that is new is zero -/
def zZ0 (σ : zSt) : Prop := ∀ c j k, 5 < c → zcn σ c ≤ j → zgi σ c j k = 0 ∧ zgl σ c j k = 0 ∧ zgr σ c j k = (0, 0)
section zIn
variable {σ σ' σ0 : zSt} {c c2 j k n o : Nat} {M : Nat → Nat → Nat → Prop}
theorem zZ0.gi (h : zZ0 σ) (h5 : 5 < c) (a b e : Nat) : zgi (znew σ c) a b e = zgi σ a b e := by
  rw [zgi_new]
  by_cases q : a = c ∧ b = zcn σ c
  · rw [if_pos q, q.1, q.2, (h c _ e h5 (Nat.le_refl _)).1]
  · rw [if_neg q]
theorem zZ0.gl (h : zZ0 σ) (h5 : 5 < c) (a b e : Nat) : zgl (znew σ c) a b e = zgl σ a b e := by
  rw [zgl_new]
  by_cases q : a = c ∧ b = zcn σ c
  · rw [if_pos q, q.1, q.2, (h c _ e h5 (Nat.le_refl _)).2.1]
  · rw [if_neg q]
theorem zZ0.gr (h : zZ0 σ) (h5 : 5 < c) (a b e : Nat) : zgr (znew σ c) a b e = zgr σ a b e := by
  rw [zgr_new]
  by_cases q : a = c ∧ b = zcn σ c
  · rw [if_pos q, q.1, q.2, (h c _ e h5 (Nat.le_refl _)).2.2]
  · rw [if_neg q]
theorem zZ0.new (h : zZ0 σ) (h5 : 5 < c) : zZ0 (znew σ c) := fun a b e h1 h2 => by
  rw [h.gi h5, h.gl h5, h.gr h5]
  refine h a b e h1 (Nat.le_trans ?_ h2)
  rw [zcn_new]
  split
  · next q => subst q; omega
  · exact Nat.le_refl _
theorem zZ0.si {x : Int32} (h : zZ0 σ) (hj : j < zcn σ c) : zZ0 (zsi σ c j k x) := fun a b e h1 h2 => by
  obtain ⟨q1, q2, q3⟩ := h a b e h1 h2
  refine ⟨?_, q2, q3⟩
  rw [zgi_si, if_neg (fun q => by have h3 : zcn σ a ≤ b := h2; rw [q.1, q.2.1] at h3; omega)]
  exact q1
theorem zZ0.sl {x : Int64} (h : zZ0 σ) (hj : j < zcn σ c) : zZ0 (zsl σ c j k x) := fun a b e h1 h2 => by
  obtain ⟨q1, q2, q3⟩ := h a b e h1 h2
  refine ⟨q1, ?_, q3⟩
  rw [zgl_sl, if_neg (fun q => by have h3 : zcn σ a ≤ b := h2; rw [q.1, q.2.1] at h3; omega)]
  exact q2
theorem zZ0.sr {x : Nat × Nat} (h : zZ0 σ) (hj : j < zcn σ c) : zZ0 (zsr σ c j k x) := fun a b e h1 h2 => by
  obtain ⟨q1, q2, q3⟩ := h a b e h1 h2
  refine ⟨q1, q2, ?_⟩
  rw [zgr_sr, if_neg (fun q => by have h3 : zcn σ a ≤ b := h2; rw [q.1, q.2.1] at h3; omega)]
  exact q3
theorem zZ0.on (h : zZ0 σ) (h5 : 5 < c) : zOnly M σ (znew σ c) := fun a b e _ => ⟨h.gi h5 a b e, h.gl h5 a b e, h.gr h5 a b e⟩
/-- the rows of an object: those of l are made, and the object names them -/
def zMp (o j : Nat) (l : List (Nat × Nat)) (σ0 σ : zSt) : Prop := zZ0 σ ∧ (∀ a b e, zgi σ a b e = zgi σ0 a b e) ∧ (∀ a b e, zgl σ a b e = zgl σ0 a b e) ∧ (∀ a b e, ¬ (a = o ∧ b = j ∧ e ∈ l.map Prod.snd) → zgr σ a b e = zgr σ0 a b e) ∧ (∀ c, zcn σ c = zcn σ0 c + if c ∈ l.map Prod.fst then 1 else 0) ∧ ∀ q ∈ l, zgr σ o j q.2 = (q.1, zcn σ0 q.1)
theorem zMp.rf (h : zZ0 σ) : zMp o j [] σ σ := ⟨h, fun _ _ _ => rfl, fun _ _ _ => rfl, fun _ _ _ _ => rfl, fun c => by simp, fun q hq => absurd hq List.not_mem_nil⟩
theorem zMp.next {l : List (Nat × Nat)} (h : zMp o j l σ0 σ) (hc : c ∉ l.map Prod.fst) (hk : k ∉ l.map Prod.snd) (h5 : 5 < c) (hco : c ≠ o) (hj : j < zcn σ0 o) : zMp o j ((c, k) :: l) σ0 (zsr (znew σ c) o j k (c, zcn σ c)) := by
  obtain ⟨z, gi, gl, gr, cn, rf⟩ := h
  have hcn : zcn σ c = zcn σ0 c := by rw [cn, if_neg hc, Nat.add_zero]
  have hoj : j < zcn (znew σ c) o := by
    rw [zcn_new, if_neg (Ne.symm hco), cn]
    omega
  refine ⟨(z.new h5).sr hoj, fun a b e => ?_, fun a b e => ?_, fun a b e hn => ?_, fun a => ?_, fun q hq => ?_⟩
  · show zgi (znew σ c) a b e = _
    rw [z.gi h5, gi]
  · show zgl (znew σ c) a b e = _
    rw [z.gl h5, gl]
  · rw [List.map_cons, List.mem_cons] at hn
    rw [zgr_sr, if_neg (fun q => hn ⟨q.1, q.2.1, Or.inl q.2.2⟩), z.gr h5]
    exact gr a b e (fun q => hn ⟨q.1, q.2.1, Or.inr q.2.2⟩)
  · show zcn (znew σ c) a = _
    rw [zcn_new, List.map_cons]
    by_cases e : a = c
    · subst e
      rw [if_pos rfl, if_pos List.mem_cons_self, hcn]
    · rw [if_neg e, cn]
      by_cases e2 : a ∈ l.map Prod.fst
      · rw [if_pos e2, if_pos (List.mem_cons_of_mem _ e2)]
      · rw [if_neg e2, if_neg (fun q => by rcases List.mem_cons.mp q with q | q; exact e q; exact e2 q)]
  · rcases List.mem_cons.mp hq with rfl | hq
    · rw [zgr_sr, if_pos ⟨rfl, rfl, rfl⟩, hcn]
    · have hne : q.2 ≠ k := fun e => hk (by rw [← e]; exact List.mem_map_of_mem hq)
      rw [zgr_sr, if_neg (fun w => hne w.2.2), z.gr h5]
      exact rf q hq
theorem zMp.on {l : List (Nat × Nat)} (h : zMp o j l σ0 σ) : zOnly (fun a b e => a = o ∧ b = j ∧ e ∈ l.map Prod.snd) σ0 σ := fun a b e hn => ⟨h.2.1 a b e, h.2.2.1 a b e, h.2.2.2.1 a b e hn⟩
/-- rows of rows -/
theorem zZ0.mgi (h : zZ0 σ) (h5 : 5 < c2) (a b e : Nat) : zgi (zmna σ c c2 n) a b e = zgi σ a b e := by
  rw [zgi_mna]
  by_cases q : a = c2 ∧ zcn σ c2 ≤ b
  · rw [if_pos q, q.1, (h c2 b e h5 q.2).1]
  · rw [if_neg q]
theorem zZ0.mgl (h : zZ0 σ) (h5 : 5 < c2) (a b e : Nat) : zgl (zmna σ c c2 n) a b e = zgl σ a b e := by
  rw [zgl_mna]
  by_cases q : a = c2 ∧ zcn σ c2 ≤ b
  · rw [if_pos q, q.1, (h c2 b e h5 q.2).2.1]
  · rw [if_neg q]
theorem zZ0.mgr (h : zZ0 σ) (h5 : 5 < c2) (a b e : Nat) : zgr (zmna σ c c2 n) a b e = if a = c ∧ b = zcn σ c ∧ e < n then (c2, zcn σ c2 + e) else if a = c ∧ b = zcn σ c then (0, 0) else zgr σ a b e := by
  rw [zgr_mna]
  by_cases q : a = c ∧ b = zcn σ c
  · rw [if_pos q]
    by_cases q2 : e < n
    · rw [if_pos q2, if_pos ⟨q.1, q.2, q2⟩]
    · rw [if_neg q2, if_neg (fun w => q2 w.2.2), if_pos q]
  · have r : (if a = c ∧ b = zcn σ c ∧ e < n then (c2, zcn σ c2 + e) else if a = c ∧ b = zcn σ c then (0, 0) else zgr σ a b e) = zgr σ a b e := by
      rw [if_neg (fun w => q ⟨w.1, w.2.1⟩), if_neg q]
    rw [r, if_neg q]
    by_cases q3 : a = c2 ∧ zcn σ c2 ≤ b
    · rw [if_pos q3, q3.1, (h c2 b e h5 q3.2).2.2]
    · rw [if_neg q3]
theorem zZ0.mna (h : zZ0 σ) (h5 : 5 < c) (h52 : 5 < c2) (hcc : c ≠ c2) : zZ0 (zmna σ c c2 n) := fun a b e h1 h2 => by
  rw [zcn_mna] at h2
  have hle : zcn σ a ≤ b := by
    by_cases q : a = c
    · rw [if_pos q] at h2; subst q; omega
    · rw [if_neg q] at h2
      by_cases q2 : a = c2
      · rw [if_pos q2] at h2; subst q2; omega
      · rw [if_neg q2] at h2; exact h2
  obtain ⟨q1, q2, q3⟩ := h a b e h1 hle
  rw [h.mgi h52, h.mgl h52, h.mgr h52]
  refine ⟨q1, q2, ?_⟩
  have hn : ¬ (a = c ∧ b = zcn σ c) := fun w => by
    rw [if_pos w.1, w.2] at h2
    omega
  rw [if_neg (fun w => hn ⟨w.1, w.2.1⟩), if_neg hn]
  exact q3
theorem zZ0.mon (h : zZ0 σ) (h5 : 5 < c) (h52 : 5 < c2) : zOnly (fun a b e => a = c ∧ b = zcn σ c ∧ e < n) σ (zmna σ c c2 n) := fun a b e hn => by
  refine ⟨h.mgi h52 a b e, h.mgl h52 a b e, ?_⟩
  rw [h.mgr h52, if_neg hn]
  by_cases q : a = c ∧ b = zcn σ c
  · rw [if_pos q, q.1, q.2, (h c _ e h5 (Nat.le_refl _)).2.2]
  · rw [if_neg q]
/-- an array of numbers is filled from its start -/
def zfill (σ : zSt) (c : Nat) (v : Int32) (i : Nat) : zSt := (fun a b e => if a = c ∧ b = 0 ∧ e < i then v else σ.1 a b e, σ.2)
theorem zfill_0 {v : Int32} : zfill σ c v 0 = σ := by
  unfold zfill
  have : (fun a b e => if a = c ∧ b = 0 ∧ e < 0 then v else σ.1 a b e) = σ.1 := by
    funext a b e
    rw [if_neg (by omega)]
  rw [this]
theorem zfill_s {v : Int32} (i : Nat) : zsi (zfill σ c v i) c 0 i v = zfill σ c v (i + 1) := by
  unfold zsi zfill
  refine Prod.ext ?_ rfl
  funext a b e
  by_cases q : a = c ∧ b = 0 ∧ e = i
  · show (if a = c ∧ b = 0 ∧ e = i then v else if a = c ∧ b = 0 ∧ e < i then v else σ.1 a b e) = if a = c ∧ b = 0 ∧ e < i + 1 then v else σ.1 a b e
    rw [if_pos q, if_pos ⟨q.1, q.2.1, by omega⟩]
  · show (if a = c ∧ b = 0 ∧ e = i then v else if a = c ∧ b = 0 ∧ e < i then v else σ.1 a b e) = if a = c ∧ b = 0 ∧ e < i + 1 then v else σ.1 a b e
    rw [if_neg q]
    by_cases q2 : a = c ∧ b = 0 ∧ e < i
    · rw [if_pos q2, if_pos ⟨q2.1, q2.2.1, by omega⟩]
    · rw [if_neg q2, if_neg (fun w => q2 ⟨w.1, w.2.1, by have : ¬ e = i := fun x => q ⟨w.1, w.2.1, x⟩; omega⟩)]
theorem zfill_gi {v : Int32} (i a b e : Nat) : zgi (zfill σ c v i) a b e = if a = c ∧ b = 0 ∧ e < i then v else zgi σ a b e := rfl
theorem zfill_Z {v : Int32} {i : Nat} (h : zZ0 σ) (hc : 0 < zcn σ c) : zZ0 (zfill σ c v i) := fun a b e h1 h2 => by
  obtain ⟨q1, q2, q3⟩ := h a b e h1 h2
  refine ⟨?_, q2, q3⟩
  rw [zfill_gi, if_neg (fun q => by have h3 : zcn σ a ≤ b := h2; rw [q.1, q.2.1] at h3; omega)]
  exact q1
end zIn
theorem zcn_sr {σ : zSt} {a b e c : Nat} {x : Nat × Nat} : zcn (zsr σ a b e x) c = zcn σ c := rfl
theorem zcn_si {σ : zSt} {a b e c : Nat} {x : Int32} : zcn (zsi σ a b e x) c = zcn σ c := rfl
theorem zcn_sl {σ : zSt} {a b e c : Nat} {x : Int64} : zcn (zsl σ a b e x) c = zcn σ c := rfl
