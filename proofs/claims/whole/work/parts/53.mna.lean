/-! rows of rows -/
def zmna (σ : zSt) (c c2 n : Nat) : zSt := (fun a b e => if a = c2 ∧ zcn σ c2 ≤ b then 0 else σ.1 a b e, fun a b e => if a = c2 ∧ zcn σ c2 ≤ b then 0 else σ.2.1 a b e, fun a b e => if a = c ∧ b = zcn σ c then (if e < n then (c2, zcn σ c2 + e) else (0, 0)) else if a = c2 ∧ zcn σ c2 ≤ b then (0, 0) else σ.2.2.1 a b e, fun a => if a = c then zcn σ c + 1 else if a = c2 then zcn σ c2 + n else σ.2.2.2.1 a, fun a b => if a = c ∧ b = zcn σ c then ztp σ else if a = c2 ∧ zcn σ c2 ≤ b then ztp σ + 1 + (b - zcn σ c2) else σ.2.2.2.2.1 a b, (ztp σ + 1 + n, zsc σ))
section zNm
variable {ph : Bool} {d kc ks : Nat} {M : zMth} {pc : Nat} {L : List (Option zV)} {S : List zV} {σ : zSt} {Q : Option zV → zSt → Prop} {idx k k' c c2 n : Nat}
theorem zcn_mna (a : Nat) : zcn (zmna σ c c2 n) a = if a = c then zcn σ c + 1 else if a = c2 then zcn σ c2 + n else zcn σ a := rfl
theorem zgi_mna (a b e : Nat) : zgi (zmna σ c c2 n) a b e = if a = c2 ∧ zcn σ c2 ≤ b then 0 else zgi σ a b e := rfl
theorem zgl_mna (a b e : Nat) : zgl (zmna σ c c2 n) a b e = if a = c2 ∧ zcn σ c2 ≤ b then 0 else zgl σ a b e := rfl
theorem zgr_mna (a b e : Nat) : zgr (zmna σ c c2 n) a b e = if a = c ∧ b = zcn σ c then (if e < n then (c2, zcn σ c2 + e) else (0, 0)) else if a = c2 ∧ zcn σ c2 ≤ b then (0, 0) else zgr σ a b e := rfl
theorem zad_mna (a b : Nat) : zad (zmna σ c c2 n) a b = if a = c ∧ b = zcn σ c then ztp σ else if a = c2 ∧ zcn σ c2 ≤ b then ztp σ + 1 + (b - zcn σ c2) else zad σ a b := rfl
theorem zmna_lt (hcc : c ≠ c2) {a b : Nat} (h : b < zcn (zmna σ c c2 n) a) : (a = c ∧ b = zcn σ c) ∨ (a = c2 ∧ zcn σ c2 ≤ b ∧ b < zcn σ c2 + n) ∨ (b < zcn σ a ∧ ¬ (a = c ∧ b = zcn σ c) ∧ ¬ (a = c2 ∧ zcn σ c2 ≤ b)) := by
  rw [zcn_mna] at h
  by_cases e : a = c
  · subst e
    rw [if_pos rfl] at h
    by_cases e2 : b = zcn σ a
    · exact Or.inl ⟨rfl, e2⟩
    · exact Or.inr (Or.inr ⟨by omega, fun q => e2 q.2, fun q => hcc q.1⟩)
  · rw [if_neg e] at h
    by_cases e2 : a = c2
    · subst e2
      rw [if_pos rfl] at h
      by_cases e3 : zcn σ a ≤ b
      · exact Or.inr (Or.inl ⟨rfl, e3, h⟩)
      · exact Or.inr (Or.inr ⟨by omega, fun q => e q.1, fun q => e3 q.2⟩)
    · rw [if_neg e2] at h
      exact Or.inr (Or.inr ⟨h, fun q => e q.1, fun q => e2 q.1⟩)
theorem zmna_X : zX σ (zmna σ c c2 n) := by
  refine ⟨fun a b h => ⟨?_, ?_⟩, rfl⟩
  · rw [zcn_mna]
    split
    · next e => subst e; omega
    · split
      · next e => subst e; omega
      · exact h
  · rw [zad_mna, if_neg (fun q => by rw [q.1] at h; omega), if_neg (fun q => by rw [q.1] at h; omega)]
theorem zRP.mna {D : va_G} {acl : Nat → ClassId} {z : Nat} {H H' : Heap} (h : zRP false D acl z σ H) (h5 : 5 < c) (h52 : 5 < c2) (hcc : c ≠ c2) (hz : H'.size = H.size + 1 + n) (ho : ∀ q, q < H.size → H'[q]? = H[q]?) (hn : va_at D vwCl (H.size, zen acl (zmna σ c c2 n) c (zcn σ c)) H') (hn2 : ∀ i, i < n → va_at D vwCl (H.size + 1 + i, zen acl (zmna σ c c2 n) c2 (zcn σ c2 + i)) H') : zRP false D acl z (zmna σ c c2 n) H' := by
  obtain ⟨r1, r2, r3, r4, r5, r6, r7⟩ := h
  have hl : ∀ a b, 0 < a → b < zcn σ a → zad σ a b < ztp σ := fun a b g0 gj => by
    have := (r3 a b g0 gj).lt
    rw [r1] at this
    exact this
  have ad1 : zad (zmna σ c c2 n) c (zcn σ c) = ztp σ := by rw [zad_mna, if_pos ⟨rfl, rfl⟩]
  have ad2 : ∀ b, zcn σ c2 ≤ b → zad (zmna σ c c2 n) c2 b = ztp σ + 1 + (b - zcn σ c2) := fun b hb => by rw [zad_mna, if_neg (fun q => hcc q.1.symm), if_pos ⟨rfl, hb⟩]
  have ad3 : ∀ a b, ¬ (a = c ∧ b = zcn σ c) → ¬ (a = c2 ∧ zcn σ c2 ≤ b) → zad (zmna σ c c2 n) a b = zad σ a b := fun a b q1 q2 => by rw [zad_mna, if_neg q1, if_neg q2]
  refine ⟨by rw [hz, r1]; rfl, by show z ≤ ztp σ + 1 + n; omega, fun a b g0 gj => ?_, fun a b a' b' g0 g0' gj gj' => ?_, fun a b g5 gj => ?_, fun a b e g0 gj => ?_, fun hp => by cases hp⟩
  · rcases zmna_lt hcc gj with ⟨rfl, rfl⟩ | ⟨rfl, h1, h2⟩ | ⟨hj, q1, q2⟩
    · rw [ad1, ← r1]; exact hn
    · rw [ad2 b h1, ← r1]
      have := hn2 (b - zcn σ a) (by omega)
      rw [show zcn σ a + (b - zcn σ a) = b by omega] at this
      exact this
    · rw [ad3 a b q1 q2, zen_X zmna_X (fun e => by rw [zgi_mna, if_neg q2]) (fun e => by rw [zgl_mna, if_neg q2]) (fun e => by rw [zgr_mna, if_neg q1, if_neg q2]) (fun e => r6 a b e g0 hj)]
      exact (r3 a b g0 hj).kept (ho _ (r3 a b g0 hj).lt)
  · rcases zmna_lt hcc gj with ⟨rfl, rfl⟩ | ⟨rfl, h1, h2⟩ | ⟨hj, q1, q2⟩
    · rw [ad1]
      rcases zmna_lt hcc gj' with ⟨rfl, rfl⟩ | ⟨rfl, h1', h2'⟩ | ⟨hj', q1', q2'⟩
      · exact fun _ => ⟨rfl, rfl⟩
      · rw [ad2 b' h1']; intro e; omega
      · rw [ad3 a' b' q1' q2']; intro e; have := hl a' b' g0' hj'; omega
    · rw [ad2 b h1]
      rcases zmna_lt hcc gj' with ⟨rfl, rfl⟩ | ⟨rfl, h1', h2'⟩ | ⟨hj', q1', q2'⟩
      · rw [ad1]; intro e; omega
      · rw [ad2 b' h1']; intro e; exact ⟨rfl, by omega⟩
      · rw [ad3 a' b' q1' q2']; intro e; have := hl a' b' g0' hj'; omega
    · rw [ad3 a b q1 q2]
      rcases zmna_lt hcc gj' with ⟨rfl, rfl⟩ | ⟨rfl, h1', h2'⟩ | ⟨hj', q1', q2'⟩
      · rw [ad1]; intro e; have := hl a b g0 hj; omega
      · rw [ad2 b' h1']; intro e; have := hl a b g0 hj; omega
      · rw [ad3 a' b' q1' q2']; exact r4 a b a' b' g0 g0' hj hj'
  · rcases zmna_lt hcc gj with ⟨rfl, rfl⟩ | ⟨rfl, h1, h2⟩ | ⟨hj, q1, q2⟩
    · rw [ad1]; exact r2
    · rw [ad2 b h1]; omega
    · rw [ad3 a b q1 q2]; exact r5 a b g5 hj
  · rw [zgr_mna]
    rcases zmna_lt hcc gj with ⟨rfl, rfl⟩ | ⟨rfl, h1, h2⟩ | ⟨hj, q1, q2⟩
    · rw [if_pos ⟨rfl, rfl⟩]
      split
      · next he =>
        refine Or.inr ?_
        show zcn σ c2 + e < zcn (zmna σ a c2 n) c2
        rw [zcn_mna, if_neg (fun q => hcc q.symm), if_pos rfl]
        omega
      · exact Or.inl rfl
    · rw [if_neg (fun q => hcc q.1.symm), if_pos ⟨rfl, h1⟩]; exact Or.inl rfl
    · rw [if_neg q1, if_neg q2]; exact (r6 a b e g0 hj).mono zmna_X
theorem r_mna {ty : FieldType} {k1 k2 m : Nat} {x y : Int32} (hty : (ty = .long ∧ k1 = 7 ∧ k2 = 1) ∨ (ty = .int ∧ k1 = 8 ∧ k2 = 0)) (hw : Cond.classLink M.1.cls idx ("[" ++ (FieldType.array ty).toString) ∈ zT) (hw2 : Cond.arrayOver (.array ty) ∈ lw_tbl) (hw3 : Cond.arrayClass ty ∈ zT) (hc : zkd c = k1) (hc2 : zkd c2 = k2) (h5 : 5 < c) (h52 : 5 < c2) (hcc : c ≠ c2) (hn : zLn.getD c 0 = n) (hm : zLn.getD c2 0 = m) (hn2 : n ≤ 60000) (hm2 : m ≤ 60000) (hx9 : x = nI n) (hy9 : y = nI m) (hkc : kc = 1 + n + k) (hks : ks = n + n * m + k') (hd : decode M.2.1 pc = .ok (.multianewarray idx 2, 4)) (kk : zE false d k k' M (pc + 4) L (.inr (.inr (c, zcn σ c)) :: S) (zmna σ c c2 n) Q) : zE false d kc ks M pc L (.inl y :: .inl x :: S) σ Q := by
  intro D acl z p l e R s m' args below meth c1 H locs cells slots σe ls Zp mc ms hx g1 g2 g3 g4 g5 g6 hR hZ hS hX hL hV hQ
  have hx0 := hx
  subst hx9
  subst hy9
  subst hkc
  subst hks
  simp only [List.forall_mem_cons] at hV
  obtain ⟨x1, x2, x3, x4, x5, x6, x7, x8, x9⟩ := hx
  have hl : zln (zmna σ c c2 n) c = n := by rw [zln_ne h5, hn]
  have hl2 : zln (zmna σ c c2 n) c2 = m := by rw [zln_ne h52, hm]
  have en : (nI n).toNatClampNeg = n := nI_clamp (by omega)
  have em : (nI m).toNatClampNeg = m := nI_clamp (by omega)
  rw [List.map_cons, List.map_cons]
  intro T hT Xs
  obtain ⟨vm₁, cA, comp, -, fA, fC, hO, -, X', step⟩ := Xs.multianewarray2F x1 x4 (x5 _ hw) (zAOA.use (x9.2.2 ty hw2)) (x5 _ hw3) (g := F0 m' pc ls (.int (nI m) :: .int (nI n) :: S.map (zc σ))) rfl (by rw [x2]; exact hd) rfl (nI_nneg (by omega)) (nI_nneg (by omega)) (by rw [en]; omega) (by rw [em]; rcases hty with ⟨rfl, -⟩ | ⟨rfl, -⟩ <;> (show m * _ ≤ _; simp [componentBytes]; omega)) (by rw [em]; omega) (by rcases hty with ⟨rfl, -⟩ | ⟨rfl, -⟩ <;> rfl) (by rcases hty with ⟨rfl, -⟩ | ⟨rfl, -⟩ <;> rfl) (by rw [en]; omega) (by rw [en, em]; omega)
  rw [en, em] at X' step
  generalize hF : Jvm.Free.Multi.fill (T.setVm vm₁) cA comp n m (defaultValue ty) n = F at X' step
  have hTh : (T.setVm vm₁).heap = H := hT
  obtain ⟨f1, f2, -, -⟩ := Jvm.Free.Multi.fill_facts (T.setVm vm₁) cA comp n m (defaultValue ty) n
  rw [hF, hTh] at f1 f2
  have hold : ∀ q : Nat, q < H.size → F.heap[q]? = H[q]? := fun q hq => by
    have := Jvm.Free.Multi.fill_old (T.setVm vm₁) cA comp n m (defaultValue ty) (a := q) (by rw [hTh]; exact hq) n
    rw [hF, hTh] at this
    exact this
  have hrow : ∀ j : Nat, j < n → F.heap[H.size + 1 + j]? = some (Jvm.Free.Multi.innerC comp m (defaultValue ty)) := fun j hj => by
    have := Jvm.Free.Multi.fill_inner (T.setVm vm₁) cA comp n m (defaultValue ty) n j hj
    rw [hF, hTh] at this
    exact this
  have hX1 : zX σ (zmna σ c c2 n) := zmna_X
  have hR' : zRP false D acl z (zmna σ c c2 n) F.heap := by
    refine hR.mna h5 h52 hcc f1 hold ?_ (fun i hi => ?_)
    · have hk1 : 3 ≤ k1 ∧ k1 < 20 := by rcases hty with ⟨-, rfl, -⟩ | ⟨-, rfl, -⟩ <;> omega
      have hcA : cA = acl k1 := by
        rcases hty with ⟨rfl, rfl, -⟩ | ⟨rfl, rfl, -⟩
        · exact Option.some.inj (fA.symm.trans (x6.2 7 _ rfl).2)
        · exact Option.some.inj (fA.symm.trans (x6.2 8 _ rfl).2)
      rw [zen_aq hc hk1.1 hk1.2, hl]
      show F.heap[H.size]? = some (vp_cell _ _)
      rw [f2, hcA, vr_outer, vp_cell_q]
      congr 2
      funext q
      rw [zgr_mna, if_pos ⟨rfl, rfl⟩]
      by_cases hq : q < n
      · rw [if_pos hq, if_pos hq]
        show va_rf (some (H.size + 1 + q)) = va_rf (if c2 = 0 then none else some (zad (zmna σ c c2 n) c2 (zcn σ c2 + q)))
        rw [if_neg (by omega), zad_mna, if_neg (fun w => hcc w.1.symm), if_pos ⟨rfl, by omega⟩, hR.1]
        congr 2
        omega
      · rw [if_neg hq, if_neg hq]
        rfl
    · rcases hty with ⟨rfl, -, rfl⟩ | ⟨rfl, -, rfl⟩
      · have hcA : comp = acl 1 := Option.some.inj (fC.symm.trans (x6.2 1 _ rfl).2)
        rw [zen_al hc2, hl2]
        show F.heap[H.size + 1 + i]? = some (vp_cell _ _)
        rw [hrow i hi, hcA, vp_cell_l]
        show some ({ cls := _, slots := Array.replicate m _, vm := .none } : Cell) = _
        rw [arrV_new]
        congr 2
        funext q
        rw [zgl_mna, if_pos ⟨rfl, by omega⟩]
        rfl
      · have hcA : comp = acl 0 := Option.some.inj (fC.symm.trans (x6.2 0 _ rfl).2)
        rw [zen_ai hc2, hl2]
        show F.heap[H.size + 1 + i]? = some (vp_cell _ _)
        rw [hrow i hi, hcA, vp_cell_i]
        show some ({ cls := _, slots := Array.replicate m _, vm := .none } : Cell) = _
        rw [arrV_new]
        congr 2
        funext q
        rw [zgi_mna, if_pos ⟨rfl, by omega⟩]
        rfl
  have e9 : Value.ref H.size = zc (zmna σ c c2 n) (.inr (.inr (c, zcn σ c))) := by
    rw [zok_ad (by omega), zad_mna, if_pos ⟨rfl, rfl⟩, hR.1]
  have e8 : S.map (zc σ) = S.map (zc (zmna σ c c2 n)) := List.map_congr_left (fun v hv => (zc.mono hX1 (hV.2.2 v hv)).symm)
  have hfin := kk D acl z p l e R s m' args below meth c1 F.heap locs (cells + 1 + n) (slots + n + n * m) σe ls Zp mc ms hx0 g1 g2 g3 g4 (by omega) (by omega) hR' hZ ⟨by rw [f1]; have := hS.1; omega, fun q w1 w2 => (hold q (Nat.lt_of_lt_of_le w1 hS.1)).trans (hS.2.1 q w1 w2), hS.2.2⟩ (hX.tr hX1) (hL.mono hX1) (by
    simp only [List.forall_mem_cons]
    refine ⟨Or.inr ?_, fun v hv => (hV.2.2 v hv).mono hX1⟩
    show zcn σ c < zcn (zmna σ c c2 n) c
    rw [zcn_mna, if_pos rfl]
    omega) hQ
  rw [List.map_cons, ← e9, ← e8] at hfin
  obtain ⟨t, a1, b1⟩ := hfin F rfl X'
  refine ⟨t, step t ?_, b1⟩
  have e : T.heap.size = H.size := by rw [hT]
  rw [e]
  exact a1
end zNm
