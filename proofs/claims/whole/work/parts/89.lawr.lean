/-! rules that the law alone wants: the length of the script, the step out of making -/
section zLw
variable {ph : Bool} {d kc ks : Nat} {M : zMth} {pc : Nat} {L : List (Option zV)} {S : List zV} {σ : zSt} {Q : Option zV → zSt → Prop}
theorem r_alenS {j : Nat} (hd : decode M.2.1 pc = .ok (.arraylength, 1)) (k : zE ph d kc ks M (pc + 1) L (.inl (nI (zsc σ)) :: S) σ Q) : zE ph d kc ks M pc L (.inr (.inr (1, j)) :: S) σ Q := by
  intro D acl z p l e R s m args below meth c1 H locs cells slots σe ls Zp mc ms hx h1 h2 h3 h4 h5' h6 hR hZ hS hX hL hV hQ
  have hx0 := hx
  obtain ⟨x1, x2, x3, x4, x5, x6, x7, x8⟩ := hx
  simp only [List.forall_mem_cons] at hV
  have hj : j < zcn σ 1 := hV.1.resolve_left (by simp only; omega)
  have hat := hR.2.2.1 1 j (by omega) hj
  have hk' := k D acl z p l e R s m args below meth c1 H locs cells slots σe ls Zp mc ms hx0 h1 h2 h3 h4 h5' h6 hR hZ hS hX hL (by simp only [List.forall_mem_cons]; exact ⟨trivial, hV.2⟩) hQ
  rw [List.map_cons, zok_ad (by omega)]
  rw [zen_ai (show zkd 1 = 0 from rfl)] at hat
  exact W.alen (n := nI (zsc σ)) x1 x2 hat ((x6.2 0 _ rfl).1 _ (fun k => .int (zgi σ 1 j k))) (by show (arrV _ _ _).slots.size.toInt32 = _; rw [arrV_size]; rfl) rfl rfl hd hk'
theorem zE.phase (h : zE true d kc ks M pc L S σ Q) (hK : zK σ) : zE false d kc ks M pc L S σ Q := by
  intro D acl z p l e R s m args below meth c1 H locs cells slots σe ls Zp mc ms hx h1 h2 h3 h4 h5 h6 hR hZ hS hX hL hV hQ
  have down : ∀ σ' H', zRP true D acl z σ' H' → zRP false D acl z σ' H' := fun σ' H' q => ⟨q.1, q.2.1, q.2.2.1, q.2.2.2.1, q.2.2.2.2.1, q.2.2.2.2.2.1, fun w => by cases w⟩
  exact h D acl z p l e R s m args below meth c1 H locs cells slots σe ls Zp mc ms hx h1 h2 h3 h4 h5 h6 ⟨hR.1, hR.2.1, hR.2.2.1, hR.2.2.2.1, hR.2.2.2.2.1, hR.2.2.2.2.2.1, fun _ => hK⟩ hZ hS hX hL hV (fun r σ' H' locs' pc' ls' q1 q2 => hQ r σ' H' locs' pc' ls' q1 (down σ' H' q2))
end zLw
