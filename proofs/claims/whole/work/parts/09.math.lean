/-! the library's own: Math, the copying of rows of longs -/
section zR6
variable {ph : Bool} {d kc ks : Nat} {M : zMth} {pc idx : Nat} {L : List (Option zV)} {S : List zV} {σ : zSt} {Q : Option zV → zSt → Prop}
theorem zmw_max : Cond.static Lib.Math.max.name ∈ zT ∧ Cond.initialized "java/lang/Math" ∈ zT ∧ Cond.code Lib.Math.max.name Lib.Math.max.code 2 (some .int) ∈ zT := ⟨zT_in (List.mem_of_getElem? (i := 970) (by decide +kernel)) rfl, zT_in (List.mem_of_getElem? (i := 123) (by decide +kernel)) rfl, zT_in (List.mem_of_getElem? (i := 971) (by decide +kernel)) rfl⟩
theorem r_mmax {x y : Int32} (hm : Cond.methodLink M.1.cls idx Lib.Math.max.name ∈ zT) (hd : decode M.2.1 pc = .ok (.invokestatic idx, 3)) (hS8 : (S.map zcat).sum ≤ 8) (k : zE ph (d + 1) kc ks M (pc + 3) L (.inl (if x < y then y else x) :: S) σ Q) : zE ph (d + 1) kc ks M pc L (.inl y :: .inl x :: S) σ Q := by
  intro D acl z p l e R s m args below meth c1 H locs cells slots σe ls Zp mc ms hx h1 h2 h3 h4 h5 h6 hR hZ hS hX hL hV hQ
  have hx0 := hx
  obtain ⟨x1, x2, x3, x4, x5, x6, x7, x8⟩ := hx
  simp only [List.forall_mem_cons] at hV
  exact va_mmax x1 x2 (by rw [x3]; exact hL.1.symm) x4 (x5 _ hm) (x5 _ zmw_max.1) (x5 _ zmw_max.2.1) (x5 _ zmw_max.2.2) (by omega) (by rw [zcatsum]; omega) (by omega) (by omega) hd (k D acl z p l e R s m args below meth c1 H locs cells slots σe ls Zp mc ms hx0 h1 h2 h3 h4 h5 h6 hR hZ hS hX hL (by simp only [List.forall_mem_cons]; exact ⟨trivial, hV.2.2⟩) hQ)
theorem zmw_min : Cond.static Lib.Math.min.name ∈ zT ∧ Cond.initialized "java/lang/Math" ∈ zT ∧ Cond.code Lib.Math.min.name Lib.Math.min.code 2 (some .int) ∈ zT := ⟨zT_in (List.mem_of_getElem? (i := 967) (by decide +kernel)) rfl, zT_in (List.mem_of_getElem? (i := 123) (by decide +kernel)) rfl, zT_in (List.mem_of_getElem? (i := 968) (by decide +kernel)) rfl⟩
theorem r_mmin {x y : Int32} (hm : Cond.methodLink M.1.cls idx Lib.Math.min.name ∈ zT) (hd : decode M.2.1 pc = .ok (.invokestatic idx, 3)) (hS8 : (S.map zcat).sum ≤ 8) (k : zE ph (d + 1) kc ks M (pc + 3) L (.inl (if y < x then y else x) :: S) σ Q) : zE ph (d + 1) kc ks M pc L (.inl y :: .inl x :: S) σ Q := by
  intro D acl z p l e R s m args below meth c1 H locs cells slots σe ls Zp mc ms hx h1 h2 h3 h4 h5 h6 hR hZ hS hX hL hV hQ
  have hx0 := hx
  obtain ⟨x1, x2, x3, x4, x5, x6, x7, x8⟩ := hx
  simp only [List.forall_mem_cons] at hV
  exact va_mmin x1 x2 (by rw [x3]; exact hL.1.symm) x4 (x5 _ hm) (x5 _ zmw_min.1) (x5 _ zmw_min.2.1) (x5 _ zmw_min.2.2) (by omega) (by rw [zcatsum]; omega) (by omega) (by omega) hd (k D acl z p l e R s m args below meth c1 H locs cells slots σe ls Zp mc ms hx0 h1 h2 h3 h4 h5 h6 hR hZ hS hX hL (by simp only [List.forall_mem_cons]; exact ⟨trivial, hV.2.2⟩) hQ)
theorem zmw_abs : Cond.static Lib.Math.abs.name ∈ zT ∧ Cond.initialized "java/lang/Math" ∈ zT ∧ Cond.code Lib.Math.abs.name Lib.Math.abs.code 1 (some .int) ∈ zT := ⟨zT_in (List.mem_of_getElem? (i := 274) (by decide +kernel)) rfl, zT_in (List.mem_of_getElem? (i := 123) (by decide +kernel)) rfl, zT_in (List.mem_of_getElem? (i := 275) (by decide +kernel)) rfl⟩
theorem r_mabs {x : Int32} (hm : Cond.methodLink M.1.cls idx Lib.Math.abs.name ∈ zT) (hd : decode M.2.1 pc = .ok (.invokestatic idx, 3)) (hS8 : (S.map zcat).sum ≤ 8) (k : zE ph (d + 1) kc ks M (pc + 3) L (.inl (if 0 ≤ x then x else 0 - x) :: S) σ Q) : zE ph (d + 1) kc ks M pc L (.inl x :: S) σ Q := by
  intro D acl z p l e R s m args below meth c1 H locs cells slots σe ls Zp mc ms hx h1 h2 h3 h4 h5 h6 hR hZ hS hX hL hV hQ
  have hx0 := hx
  obtain ⟨x1, x2, x3, x4, x5, x6, x7, x8⟩ := hx
  simp only [List.forall_mem_cons] at hV
  exact va_mabs x1 x2 (by rw [x3]; exact hL.1.symm) x4 (x5 _ hm) (x5 _ zmw_abs.1) (x5 _ zmw_abs.2.1) (x5 _ zmw_abs.2.2) (by omega) (by rw [zcatsum]; omega) (by omega) (by omega) hd (k D acl z p l e R s m args below meth c1 H locs cells slots σe ls Zp mc ms hx0 h1 h2 h3 h4 h5 h6 hR hZ hS hX hL (by simp only [List.forall_mem_cons]; exact ⟨trivial, hV.2⟩) hQ)
theorem zln_ne {c : Nat} (h : 5 < c) : zln σ c = zLn.getD c 0 := by unfold zln; rw [if_neg (by omega)]
theorem zln_in {c : Nat} {i : Int32} (h : 5 < c) (hi : vp_in i (zLn.getD c 0)) : vp_in i (zln σ c) := by rw [zln_ne h]; exact hi
theorem r_alen {c j kk : Nat} (hk : zkd c = kk) (hk2 : kk < 2) (h5 : 5 < c) (hd : decode M.2.1 pc = .ok (.arraylength, 1)) (k : zE ph d kc ks M (pc + 1) L (.inl (nI (zLn.getD c 0)) :: S) σ Q) : zE ph d kc ks M pc L (.inr (.inr (c, j)) :: S) σ Q := by
  intro D acl z p l e R s m args below meth c1 H locs cells slots σe ls Zp mc ms hx h1 h2 h3 h4 h5' h6 hR hZ hS hX hL hV hQ
  have hx0 := hx
  obtain ⟨x1, x2, x3, x4, x5, x6, x7, x8⟩ := hx
  simp only [List.forall_mem_cons] at hV
  have h0 : 0 < c := by omega
  have hj : j < zcn σ c := hV.1.resolve_left (by simp only; omega)
  have hat := hR.2.2.1 c j h5 hj
  have hk' := k D acl z p l e R s m args below meth c1 H locs cells slots σe ls Zp mc ms hx0 h1 h2 h3 h4 h5' h6 hR hZ hS hX hL (by simp only [List.forall_mem_cons]; exact ⟨trivial, hV.2⟩) hQ
  rw [List.map_cons, zok_ad h0]
  have : kk = 0 ∨ kk = 1 := by omega
  rcases this with rfl | rfl
  · rw [zen_ai hk] at hat
    exact W.alen (n := nI (zLn.getD c 0)) x1 x2 hat ((x6.2 0 _ rfl).1 _ (fun k => .int (zgi σ c j k))) (by show (arrV _ _ _).slots.size.toInt32 = _; rw [arrV_size, zln_ne h5]; rfl) rfl rfl hd hk'
  · rw [zen_al hk] at hat
    exact W.alen (n := nI (zLn.getD c 0)) x1 x2 hat ((x6.2 1 _ rfl).1 _ (fun k => .long (zgl σ c j k))) (by show (arrV _ _ _).slots.size.toInt32 = _; rw [arrV_size, zln_ne h5]; rfl) rfl rfl hd hk'
end zR6
