/-! the copying of a row of longs; stores of references that may be null; budgets -/
section zNc
variable {ph : Bool} {d kc ks : Nat} {M : zMth} {pc : Nat} {L : List (Option zV)} {S : List zV} {σ : zSt} {Q : Option zV → zSt → Prop} {idx k c j : Nat}
theorem zE.room {kc' ks' : Nat} (h : zE ph d kc ks M pc L S σ Q) (h1 : kc ≤ kc') (h2 : ks ≤ ks') : zE ph d kc' ks' M pc L S σ Q := by
  intro D acl z p l e R s m args below meth c1 H locs cells slots σe ls Zp mc ms hx g1 g2 g3 g4 g5 g6 hR hZ hS hX hL hV hQ
  exact h D acl z p l e R s m args below meth c1 H locs cells slots σe ls Zp mc ms hx g1 g2 g3 g4 (by omega) (by omega) hR hZ hS hX hL hV hQ
theorem zgl_cpy (c1 j1 c2 j2 a b n x y e : Nat) : zgl (zcpy σ c1 j1 c2 j2 a b n) x y e = if x = c2 ∧ y = j2 ∧ b ≤ e ∧ e < b + n then zgl σ c1 j1 (a + (e - b)) else zgl σ x y e := rfl
theorem zn_i32 {x : Int32} (h : ¬ x < 0) : x.toInt = (x.toNatClampNeg : Int) := by
  have h0 : (0 : Int) ≤ x.toInt := by
    rw [Int32.lt_iff_toInt_lt, Int32.toInt_zero] at h
    omega
  show x.toInt = ((x.toInt.toNat : Nat) : Int)
  omega
theorem zcw : Cond.methodLink RX11 463 arraycopyName ∈ zT ∧ Cond.native arraycopyName ∈ zT ∧ Cond.static arraycopyName ∈ zT ∧ Cond.initialized "java/lang/System" ∈ zT := ⟨zT_in (zmt6 (List.mem_of_getElem? (i := 101) rfl)) rfl, zT_in (zmt6 (List.mem_of_getElem? (i := 103) rfl)) rfl, zT_in (zmt6 (List.mem_of_getElem? (i := 102) rfl)) rfl, zT_in (zmt1 (List.mem_of_getElem? (i := 18) rfl)) rfl⟩
theorem r_copyl {c1 j1 c2 j2 : Nat} {sp dp n : Int32} (hM : M.1.cls = RX11) (hk1 : zkd c1 = 1) (hk2 : zkd c2 = 1) (h51 : 5 < c1) (h52 : 5 < c2) (h1 : ¬ sp < 0 ∧ ¬ dp < 0 ∧ ¬ n < 0 ∧ sp.toNatClampNeg + n.toNatClampNeg ≤ zLn.getD c1 0 ∧ dp.toNatClampNeg + n.toNatClampNeg ≤ zLn.getD c2 0) (hd1 : 1 ≤ d) (hS8 : (S.map zcat).sum ≤ 8) (hd : decode M.2.1 pc = .ok (.invokestatic 463, 3))
    (kk : zE ph d kc ks M (pc + 3) L S (zcpy σ c1 j1 c2 j2 sp.toNatClampNeg dp.toNatClampNeg n.toNatClampNeg) Q) : zE ph d kc ks M pc L (.inl n :: .inl dp :: .inr (.inr (c2, j2)) :: .inl sp :: .inr (.inr (c1, j1)) :: S) σ Q := by
  intro D acl z p l e R s m args below meth cd H locs cells slots σe ls Zp mc ms hx g1 g2 g3 g4 g5 g6 hR hZ hS hX hL hV hQ
  have hx0 := hx
  obtain ⟨x1, x2, x3, x4, x5, x6, x7, x8, x9⟩ := hx
  simp only [List.forall_mem_cons] at hV
  obtain ⟨-, -, hV2, -, hV1, hV⟩ := hV
  have hj1 : j1 < zcn σ c1 := hV1.resolve_left (by simp only; omega)
  have hj2 : j2 < zcn σ c2 := hV2.resolve_left (by simp only; omega)
  have hat1 := hR.2.2.1 c1 j1 h51 hj1
  have hat2 := hR.2.2.1 c2 j2 h52 hj2
  rw [zen_al hk1] at hat1
  rw [zen_al hk2] at hat2
  obtain ⟨q1, q2, q3, q4, q5⟩ := h1
  rw [← zln_ne (σ := σ) h51] at q4
  rw [← zln_ne (σ := σ) h52] at q5
  rw [List.map_cons, List.map_cons, List.map_cons, List.map_cons, List.map_cons, zok_ad (by omega), zok_ad (by omega)]
  generalize hτ : zcpy σ c1 j1 c2 j2 sp.toNatClampNeg dp.toNatClampNeg n.toNatClampNeg = τ at kk
  have hX1 : zX σ τ := by rw [← hτ]; exact zX.st rfl
  have hc1 : H[zad σ c1 j1]? = some (vp_cell (acl 1) (zln σ c1, .inr (.inl fun k => zgl σ c1 j1 k))) := hat1
  have hc2 : H[zad σ c2 j2]? = some (vp_cell (acl 1) (zln σ c2, .inr (.inl fun k => zgl σ c2 j2 k))) := hat2
  obtain ⟨-, kA, hkA, cmA, hkkA⟩ := (x6.2 1 _ rfl).1 (zln σ c1) (fun k => .long (zgl σ c1 j1 k))
  intro T hT X
  obtain ⟨vm', X', step⟩ := X.arraycopy x1 (own := RX11) (by rw [← hM]; exact x4) (x5 _ zcw.1) (x5 _ zcw.2.1) (x5 _ zcw.2.2.1) (x5 _ zcw.2.2.2) (src := zad σ c1 j1) (dst := zad σ c2 j2) (cs := vp_cell (acl 1) (zln σ c1, .inr (.inl fun k => zgl σ c1 j1 k))) (cd := vp_cell (acl 1) (zln σ c2, .inr (.inl fun k => zgl σ c2 j2 k))) (srcPos := sp) (destPos := dp) (n := n) (by rw [hT]; exact hc1) (by rw [hT]; exact hc2)
    (fun _ h => by cases h) (fun _ h => by cases h) (fun h => by cases h) (fun h => by cases h) hkA hkA hkkA hkkA (by simp [refKind]) q1 q2 q3
    (by rw [zn_i32 q1, zn_i32 q3]; show ¬ _ > ((arrV (acl 1) (zln σ c1) (fun k => .long (zgl σ c1 j1 k))).slots.size : Int); rw [arrV_size]; omega)
    (by rw [zn_i32 q2, zn_i32 q3]; show ¬ _ > ((arrV (acl 1) (zln σ c2) (fun k => .long (zgl σ c2 j2 k))).slots.size : Int); rw [arrV_size]; omega)
    (fun vm₁ _ i hi => by
      have e : (vp_cell (acl 1) (zln σ c1, .inr (.inl fun k => zgl σ c1 j1 k))).slots.getD (sp.toNatClampNeg + i) .null = .long (zgl σ c1 j1 (sp.toNatClampNeg + i)) := by
        show (arrV (acl 1) (zln σ c1) (fun k => .long (zgl σ c1 j1 k))).slots.getD _ _ = _
        rw [Array.getD_eq_getD_getElem?, arrV_read _ _ (by omega)]
        rfl
      refine ⟨?_, ?_⟩
      · rw [e]; rfl
      · rw [e]; exact trivial)
    (g := F0 m pc ls (.int n :: .int dp :: .ref (zad σ c2 j2) :: .int sp :: .ref (zad σ c1 j1) :: S.map (zc σ))) rfl (by rw [x3]; exact hL.1) (rest := S.map (zc σ)) rfl (by rw [x2]; exact hd) (by omega) (by
      have e0 : ((S.map (zc σ)).map fun v => v.category).sum ≤ 8 := by rw [zcatsum]; exact hS8
      have e2 : nativeFrameWords "java/lang/System" "arraycopy" 5 ≤ 40 := by decide
      show 2 * 0 + _ + _ ≤ _
      omega)
  have e1 : copied (vp_cell (acl 1) (zln σ c1, .inr (.inl fun k => zgl σ c1 j1 k))) (vp_cell (acl 1) (zln σ c2, .inr (.inl fun k => zgl σ c2 j2 k))) sp dp n = vp_cell (acl 1) (zln σ c2, .inr (.inl fun k => zgl τ c2 j2 k)) := by
    refine (va_copied (fun z => .long z) (acl 1) (acl 1) _ _ q4).trans ?_
    rw [← hτ, vp_cell_l]
    show arrV (acl 1) (zln σ c2) _ = arrV (acl 1) (zln σ c2) _
    congr 1
    funext k
    rw [zgl_cpy]
    unfold va_cpy
    simp only [true_and]
  rw [e1] at X' step
  have hl : zad σ c2 j2 < H.size := (Array.getElem?_eq_some_iff.mp hc2).1
  have hheap : ((T.setVm vm').setCell (zad σ c2 j2) (vp_cell (acl 1) (zln σ c2, .inr (.inl fun k => zgl τ c2 j2 k)))).heap = H.setIfInBounds (zad σ c2 j2) (vp_cell (acl 1) (zln σ c2, .inr (.inl fun k => zgl τ c2 j2 k))) := by rw [← hT]; rfl
  generalize hH1 : H.setIfInBounds (zad σ c2 j2) (vp_cell (acl 1) (zln σ c2, .inr (.inl fun k => zgl τ c2 j2 k))) = H1 at hheap
  have oq : ∀ q : Nat, q ≠ zad σ c2 j2 → H1[q]? = H[q]? := fun q hq => by rw [← hH1]; simp [Array.getElem?_setIfInBounds, Ne.symm hq]
  have os : H1[zad σ c2 j2]? = some (vp_cell (acl 1) (zln σ c2, .inr (.inl fun k => zgl τ c2 j2 k))) := by rw [← hH1]; simp [Array.getElem?_setIfInBounds, hl]
  have oz : H1.size = H.size := by rw [← hH1]; simp
  have hR' : zRP ph D acl z τ H1 := by
    refine hR.upd (σ' := τ) h52 hj2 (by rw [← hτ]; rfl) (fun c' j' k' g0 gj => by rw [← hτ]; exact hR.2.2.2.2.2.1 c' j' k' g0 gj) (fun c' j' h => ?_) ?_ oz oq (fun h => by rw [← hτ]; exact zK.of (fun _ _ _ => rfl) rfl h)
    · rw [← hτ]
      exact zen_ne (σ := σ) (σ' := zcpy σ c1 j1 c2 j2 sp.toNatClampNeg dp.toNatClampNeg n.toNatClampNeg) rfl (fun _ => rfl) (fun k' => by rw [zgl_cpy, if_neg (fun e => h ⟨e.1, e.2.1⟩)]) (fun _ => rfl)
    · rw [zen_al hk2]
      have : zln τ c2 = zln σ c2 := by rw [← hτ]; rfl
      rw [this]
      exact os
  have e8 : S.map (zc τ) = S.map (zc σ) := List.map_congr_left (fun v hv => zc.mono hX1 (hV v hv))
  obtain ⟨t, a1, b1⟩ := kk D acl z p l e R s m args below meth cd H1 _ cells slots σe ls Zp mc ms hx0 g1 g2 g3 g4 g5 g6 hR' hZ ⟨by rw [oz]; exact hS.1, fun q y1 y2 => by
      rw [oq q (fun e => y2 (by rw [e]; exact hR.2.2.2.2.1 c2 j2 h52 hj2))]
      exact hS.2.1 q y1 y2, fun q hq => by
      rcases List.mem_append.mp hq with h | h
      · exact hS.2.2 q h
      · obtain ⟨w, -, hw⟩ := List.mem_map.mp h
        rw [← hw]
        exact hR.2.2.2.2.1 c2 j2 h52 hj2⟩ (hX.tr hX1) (hL.mono hX1) (fun v hv => (hV v hv).mono hX1) hQ _ hheap X'
  rw [e8] at a1
  exact ⟨t, step t a1, b1⟩
/-- a store of null into a row of objects -/
theorem r_aastN {i : Int32} {n j2 : Nat} {C : String} (hty : ∀ acl : Nat → ClassId, (zts acl)[n]? = some (acl n, .object C)) (hc : zkd c = n) (hn : 3 ≤ n ∧ n < 20) (h5 : 5 < c) (hK : ph = true → (zct c j i.toNatClampNeg).1 = 0) (hin : vp_in i (zLn.getD c 0)) (hd : decode M.2.1 pc = .ok (.aastore, 1)) (kk : zE ph d kc ks M (pc + 1) L S (zsr σ c j i.toNatClampNeg (0, j2)) Q) : zE ph d kc ks M pc L (.inr (.inr (0, j2)) :: .inl i :: .inr (.inr (c, j)) :: S) σ Q := by
  intro D acl z p l e R s m args below meth c1 H locs cells slots σe ls Zp mc ms hx g1 g2 g3 g4 g5 g6 hR hZ hS hX hL hV hQ
  have hx0 := hx
  obtain ⟨x1, x2, x3, x4, x5, x6, x7, x8⟩ := hx
  simp only [List.forall_mem_cons] at hV
  have h0 : 0 < c := by omega
  have hj : j < zcn σ c := hV.2.2.1.resolve_left (by simp only; omega)
  have hat := hR.2.2.1 c j h5 hj
  rw [zen_aq hc hn.1 hn.2] at hat
  rw [List.map_cons, List.map_cons, List.map_cons, zok_ad h0]
  rw [← zln_ne (σ := σ) h5] at hin
  refine va_WaastN (C := C) x1 x2 hat ((x6.2 n _ (hty acl)).1 _ (fun k => va_rf (zrv σ (zgr σ c j k)))) (fun h => by cases h) (by show ¬ (i < 0 ∨ (arrV _ _ _).slots.size ≤ _); rw [arrV_size]; exact hin) rfl rfl hd fun H1 e1 e2 e3 => ?_
  have hX1 : zX σ (zsr σ c j i.toNatClampNeg (0, j2)) := zX.st rfl
  have hR' : zRP ph D acl z (zsr σ c j i.toNatClampNeg (0, j2)) H1 := by
    refine hR.upd2 h5 hj rfl (fun c' j' k' g0 gj => ?_) (fun c' j' h => zen_sr_ne acl h) ?_ e2 e3 (fun hp h => ?_)
    · rw [zgr_sr]
      split
      · exact Or.inl rfl
      · exact hR.2.2.2.2.2.1 c' j' k' g0 gj
    · rw [zen_aq hc hn.1 hn.2]
      show H1[zad σ c j]? = some (vp_cell _ _)
      rw [e1, vp_cell_q, vp_cell_q, arrV_store]
      congr 2
      funext x
      by_cases hx : x = i.toNatClampNeg
      · subst hx
        simp only [updV, zgr_sr, and_self, if_true]
        rfl
      · simp [updV, zgr_sr, hx]
        rfl
    · intro a b e g0 gj q1 q2
      rw [zgr_sr]
      split
      · next w => obtain ⟨rfl, rfl, rfl⟩ := w; exact absurd (hK hp) q1
      · exact h a b e g0 gj q1 q2
  exact kk D acl z p l e R s m args below meth c1 H1 _ cells slots σe ls Zp mc ms hx0 g1 g2 g3 g4 g5 g6 hR' hZ (hS.put e2 e3 (hR.2.2.2.2.1 c j h5 hj)) (hX.tr hX1) (hL.mono hX1) (fun v hv => (hV.2.2.2 v hv).mono hX1) hQ |> fun w => by rw [show S.map (zc (zsr σ c j i.toNatClampNeg (0, j2))) = S.map (zc σ) from List.map_congr_left (fun v hv => zc.mono hX1 (hV.2.2.2 v hv))] at w; exact w
/-- a store of an object, or null -/
theorem r_aastD {i : Int32} {n c2 ci : Nat} {r : Nat × Nat} {q : vw_C} (hq : vwCl[ci]? = some q) (hty : ∀ acl : Nat → ClassId, (zts acl)[n]? = some (acl n, .object q.1)) (hc : zkd c = n) (hn : 3 ≤ n ∧ n < 20) (h5 : 5 < c) (hc2 : zkd c2 = 20 + ci) (h2 : 0 < c2) (hK : ph = true → (zct c j i.toNatClampNeg).1 = 0) (hr : r.1 = 0 ∨ r.1 = c2) (hin : vp_in i (zLn.getD c 0)) (hd : decode M.2.1 pc = .ok (.aastore, 1)) (kk : zE ph d kc ks M (pc + 1) L S (zsr σ c j i.toNatClampNeg r) Q) : zE ph d kc ks M pc L (.inr (.inr r) :: .inl i :: .inr (.inr (c, j)) :: S) σ Q := by
  obtain ⟨r1, r2⟩ := r
  rcases hr with hr | hr
  · simp only at hr
    subst hr
    exact r_aastN hty hc hn h5 hK hin hd kk
  · simp only at hr
    subst hr
    exact r_aast hq hty hc hn h5 hc2 h2 hK hin hd kk
end zNc
