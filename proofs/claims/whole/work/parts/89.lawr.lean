/-! rules that the law alone wants: the length of the script, the step out of making -/
section zLw
variable {ph : Bool} {d kc ks : Nat} {M : zMth} {pc : Nat} {L : List (Option zV)} {S : List zV} {σ : zSt} {Q : Option zV → zSt → Prop}
theorem r_alenS {j : Nat} (hd : decode M.2.1 pc = .ok (.arraylength, 1)) (k : zE ph d kc ks M (pc + 1) L (.inl (nI (zsc σ)) :: S) σ Q) : zE ph d kc ks M pc L (.inr (.inr (1, j)) :: S) σ Q := by
  intro D acl z p l e R s m args below meth c1 H locs cells slots σe ls Zp mc ms hx h1 h2 h3 h4 h5' h6 hR hZ hS hX hL hV hQ
  have hx0 := hx
  obtain ⟨x1, x2, x3, x4, x5, x6, x7, x8⟩ := hx
  simp only [List.forall_mem_cons] at hV
  have hj : j < zcn σ 1 := hV.1.resolve_left (by simp only; omega)
  obtain ⟨a1, a2, cell, a3, a4, a5, a6⟩ := hR.2.1.2 1 (by omega) (by omega)
  obtain ⟨cell', b1, b2, b3⟩ := hZ.2.2 1 (by omega) (by omega)
  have hj0 : j = 0 := by omega
  subst hj0
  rw [← (hX.1 1 0 (hZ.2.1 1 (by omega))).2] at b1 b3
  have eh : H[zad σ 1 0]? = s.heap[zad σ 1 0]? := hS.2.1 _ (Array.getElem?_eq_some_iff.mp b1).1 (Nat.not_le.mpr b3)
  have ec : cell = cell' := Option.some.inj (a3.symm.trans (eh.trans b1))
  subst ec
  have hk' := k D acl z p l e R s m args below meth c1 H locs cells slots σe ls Zp mc ms hx0 h1 h2 h3 h4 h5' h6 hR hZ hS hX hL (by simp only [List.forall_mem_cons]; exact ⟨trivial, hV.2⟩) hQ
  rw [List.map_cons, zok_ad (by omega)]
  exact W.alen (n := nI (zsc σ)) x1 x2 a3 b2 a5.2 rfl rfl hd hk'
theorem zE.phase (h : zE true d kc ks M pc L S σ Q) (hK : zK σ) : zE false d kc ks M pc L S σ Q := by
  intro D acl z p l e R s m args below meth c1 H locs cells slots σe ls Zp mc ms hx h1 h2 h3 h4 h5 h6 hR hZ hS hX hL hV hQ
  have down : ∀ σ' H', zRP true D acl z σ' H' → zRP false D acl z σ' H' := fun σ' H' q => ⟨q.1, q.2.1, q.2.2.1, q.2.2.2.1, q.2.2.2.2.1, q.2.2.2.2.2.1, fun w => by cases w⟩
  exact h D acl z p l e R s m args below meth c1 H locs cells slots σe ls Zp mc ms hx h1 h2 h3 h4 h5 h6 ⟨hR.1, hR.2.1, hR.2.2.1, hR.2.2.2.1, hR.2.2.2.2.1, hR.2.2.2.2.2.1, fun _ => hK⟩ hZ hS hX hL hV (fun r σ' H' locs' pc' ls' q1 q2 => hQ r σ' H' locs' pc' ls' q1 (down σ' H' q2))
end zLw
