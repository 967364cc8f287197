/-! the five kinds of calls, static rows, copying -/
section zR5
variable {ph : Bool} {d kc ks kc1 ks1 kc2 ks2 : Nat} {M M' : zMth} {pc idx n : Nat} {L : List (Option zV)} {S S0 As : List zV} {σ : zSt} {Q Q1 : Option zV → zSt → Prop}
theorem zcallB {R : Room} {s : State} {args : Array Value} (ht : ∀ w ∈ zT, w.before args s = true) (hm : zMok M' n) (hl : Cond.methodLink M.1.cls idx M'.1 ∈ zT) (h1 : d + 1 ≤ R.frames) (h2 : 60 * (d + 1) + 12 ≤ R.locals) : CallB R s args M.1.cls idx M'.1 M'.2.1 M'.2.2.1 M'.2.2.2 (Cond.code M'.1 M'.2.1 M'.2.2.1 M'.2.2.2 :: zT) { frames := d, cells := kc1, slots := ks1, locals := 60 * d + 12 } kc1 ks1 n :=
  callB_of n ht (zgoodin hm.1) rfl rfl rfl (ht _ hm.2.1) (ht _ hl) hm.2.2.1 ⟨h1, by have := hm.2.2.2; show 8 + (M'.2.2.1 + 11) + (60 * d + 12) ≤ R.locals; omega⟩
theorem zcallN {R : Room} {s : State} {args : Array Value} (ht : ∀ w ∈ zT, w.before args s = true) (hm : zMok M' n) (hl : Cond.methodLinkNest M.1.cls idx M'.1 "HeardPlaces" ∈ lw_tbl) (hN : zN s) (h1 : d + 1 ≤ R.frames) (h2 : 60 * (d + 1) + 12 ≤ R.locals) : va_CN R s args M.1.cls idx M'.1 "HeardPlaces" M'.2.1 M'.2.2.1 M'.2.2.2 (Cond.code M'.1 M'.2.1 M'.2.2.1 M'.2.2.2 :: zT) { frames := d, cells := kc1, slots := ks1, locals := 60 * d + 12 } kc1 ks1 n := by
  have hc : Cond.code M'.1 M'.2.1 M'.2.2.1 M'.2.2.2 ∈ Cond.code M'.1 M'.2.1 M'.2.2.1 M'.2.2.2 :: zT := List.mem_cons_self
  refine ⟨⟨rfl, rfl, h1, by have := hm.2.2.2; show 8 + (M'.2.2.1 + 11) + (60 * d + 12) ≤ R.locals; omega, pay_in ht (zgoodin hm.1), hc⟩, ht _ hm.1, ht _ hm.2.1, ⟨hm.2.2.1.1, hm.2.2.1.2.1⟩, fun sig h => ?_, va_Nw.use rfl (hN.1 _ _ _ _ hl)⟩
  have h2 := hm.2.2.1.2.2
  rw [h] at h2
  exact (Option.some.inj h2).symm
theorem zPc_at {D : va_G} {acl : Nat → ClassId} {z : Nat} {s U : State} {H : Heap} {locs : List Loc} {σe : zSt} (hA : ∀ v ∈ As, zok σ v) (hR : zRP ph D acl z σ H) (hK : va_K D vwCl (zts acl) s) (hN : zN s) (hZ : zSZ z σe s) (hX : zX σe σ) (hS : va_S (zA z) s.heap H locs) (hU : U.heap = H) (hW : s.WarmedH U.vm) : zPc ph D acl z σ As (As.map (zc σ)).toArray U :=
  ⟨rfl, hA, by rw [hU]; exact hR, va_K.moved hW.alike hK, hZ.moved hX hS hW.alike hU, hN.warm hW⟩
theorem r_callS (hm : zMS M.1.cls idx M' n) (hn : As.length = n) (hst : S0 = As.reverse ++ S) (hd : decode M.2.1 pc = .ok (.invokestatic idx, 3)) (hS8 : (S.map zcat).sum ≤ 8) (hC : zC ph d kc1 ks1 M' As σ Q1) (kk : ∀ r σ', Q1 r σ' → zX σ σ' → zE ph (d + 1) kc2 ks2 M (pc + 3) L (r.toList ++ S) σ' Q) (hkc : kc1 + kc2 = kc) (hks : ks1 + ks2 = ks) : zE ph (d + 1) kc ks M pc L S0 σ Q := by
  subst hst
  subst hkc
  subst hks
  intro D acl z p l e R s m args below meth c1 H locs cells slots σe ls Zp mc ms hx h1 h2 h3 h4 h5 h6 hR hZ hS hX hL hV hQ
  have hx0 := hx
  obtain ⟨x1, x2, x3, x4, x5, x6, x7, x8, x9⟩ := hx
  have hVS : ∀ v ∈ S, zok σ v := fun v h => hV v (List.mem_append_right _ h)
  have hVA : ∀ v ∈ As, zok σ v := fun v h => hV v (List.mem_append_left _ (List.mem_reverse.mpr h))
  have est : (As.reverse ++ S).map (zc σ) = (As.map (zc σ)).reverse ++ S.map (zc σ) := by rw [List.map_append, List.map_reverse]
  rw [est]
  exact z_call (va_runS (S := ⟨x1, x2, x3, x4, x5⟩) (hC D acl z l) ⟨zcallB (M := M) x5 hm.1 hm.2.1 h1 h2, x5 _ hm.2.2⟩ ⟨zPc_blind, fun U hU hW => zPc_at hVA hR x6 x9 hZ hX hS hU hW⟩ rfl (by rw [List.length_map]; exact hn) (by exact hL.1) rfl (lv_room (by rw [zcatsum]; exact hS8)) hd (by omega)) hx0 h1 h2 h3 h4 h5 h6 hR hZ hS hX hL hVS hQ kk
theorem r_callSN (hm : zMSN M.1.cls idx M' n) (hn : As.length = n) (hst : S0 = As.reverse ++ S) (hd : decode M.2.1 pc = .ok (.invokestatic idx, 3)) (hS8 : (S.map zcat).sum ≤ 8) (hC : zC ph d kc1 ks1 M' As σ Q1) (kk : ∀ r σ', Q1 r σ' → zX σ σ' → zE ph (d + 1) kc2 ks2 M (pc + 3) L (r.toList ++ S) σ' Q) (hkc : kc1 + kc2 = kc) (hks : ks1 + ks2 = ks) : zE ph (d + 1) kc ks M pc L S0 σ Q := by
  subst hst
  subst hkc
  subst hks
  intro D acl z p l e R s m args below meth c1 H locs cells slots σe ls Zp mc ms hx h1 h2 h3 h4 h5 h6 hR hZ hS hX hL hV hQ
  have hx0 := hx
  obtain ⟨x1, x2, x3, x4, x5, x6, x7, x8, x9⟩ := hx
  have hVS : ∀ v ∈ S, zok σ v := fun v h => hV v (List.mem_append_right _ h)
  have hVA : ∀ v ∈ As, zok σ v := fun v h => hV v (List.mem_append_left _ (List.mem_reverse.mpr h))
  have est : (As.reverse ++ S).map (zc σ) = (As.map (zc σ)).reverse ++ S.map (zc σ) := by rw [List.map_append, List.map_reverse]
  rw [est]
  exact z_call (va_runSN (S := ⟨x1, x2, x3, x4, x5⟩) (hC D acl z l) ⟨zcallN (M := M) x5 hm.1 hm.2.1 x9 h1 h2, x5 _ hm.2.2, trivial⟩ ⟨zPc_blind, fun U hU hW => zPc_at hVA hR x6 x9 hZ hX hS hU hW⟩ rfl (by rw [List.length_map]; exact hn) (by exact hL.1) rfl (lv_room (by rw [zcatsum]; exact hS8)) hd (by omega)) hx0 h1 h2 h3 h4 h5 h6 hR hZ hS hX hL hVS hQ kk
theorem r_callV {c j ci : Nat} (hm : zMV M.1.cls idx M' n) (hn : As.length = n) (h0 : 0 < c) (hci : zkd c = 20 + ci) (hcl : ∃ q, vwCl[ci]? = some q ∧ q.1 = M'.1.cls) (hst : S0 = As.reverse ++ .inr (.inr (c, j)) :: S) (hd : decode M.2.1 pc = .ok (.invokevirtual idx, 3)) (hS8 : (S.map zcat).sum ≤ 8) (hC : zC ph d kc1 ks1 M' (.inr (.inr (c, j)) :: As) σ Q1) (kk : ∀ r σ', Q1 r σ' → zX σ σ' → zE ph (d + 1) kc2 ks2 M (pc + 3) L (r.toList ++ S) σ' Q) (hkc : kc1 + kc2 = kc) (hks : ks1 + ks2 = ks) : zE ph (d + 1) kc ks M pc L S0 σ Q := by
  subst hst
  subst hkc
  subst hks
  intro D acl z p l e R s m args below meth c1 H locs cells slots σe ls Zp mc ms hx h1 h2 h3 h4 h5 h6 hR hZ hS hX hL hV hQ
  have hx0 := hx
  obtain ⟨x1, x2, x3, x4, x5, x6, x7, x8, x9⟩ := hx
  have hVS : ∀ v ∈ S, zok σ v := fun v h => hV v (List.mem_append_right _ (List.mem_cons_of_mem _ h))
  have hVb : zok σ (.inr (.inr (c, j))) := hV _ (List.mem_append_right _ List.mem_cons_self)
  have hVA : ∀ v ∈ (.inr (.inr (c, j)) :: As : List zV), zok σ v := by
    simp only [List.forall_mem_cons]
    exact ⟨hVb, fun v h => hV v (List.mem_append_left _ (List.mem_reverse.mpr h))⟩
  have hj : j < zcn σ c := hVb.resolve_left (by simp only; omega)
  have hat := hR.2.2.1 c j (zk5 h0 (by omega)) hj
  have est : (As.reverse ++ .inr (.inr (c, j)) :: S).map (zc σ) = (As.map (zc σ)).reverse ++ .ref (zad σ c j) :: S.map (zc σ) := by rw [List.map_append, List.map_reverse, List.map_cons, zok_ad h0]
  rw [est]
  rw [zen_obj hci] at hat
  obtain ⟨q, hq, hqc⟩ := hcl
  have hrec := va_recv (q0 := 0) x6 (zone hat) hq rfl
  rw [hqc] at hrec
  exact z_call (va_runV (S := ⟨x1, x2, x3, x4, x5⟩) (hC D acl z l) ⟨zcallB (M := M) x5 hm.1 hm.2.1 h1 h2, x5 _ hm.2.2.1, x5 _ hm.2.2.2⟩ ⟨zPc_blind, hrec, fun U hU hW => by
    have := zPc_at hVA hR x6 x9 hZ hX hS hU hW
    rw [List.map_cons, zok_ad h0] at this
    exact this⟩ rfl (by rw [List.length_map]; exact hn) (by exact hL.1) rfl (lv_room (by rw [zcatsum]; exact hS8)) hd (by omega)) hx0 h1 h2 h3 h4 h5 h6 hR hZ hS hX hL hVS hQ kk
theorem r_callI {c j : Nat} (hm : zMI M.1.cls idx M' n) (hn : As.length = n) (h0 : 0 < c) (hst : S0 = As.reverse ++ .inr (.inr (c, j)) :: S) (hd : decode M.2.1 pc = .ok (.invokespecial idx, 3)) (hS8 : (S.map zcat).sum ≤ 8) (hC : zC ph d kc1 ks1 M' (.inr (.inr (c, j)) :: As) σ Q1) (kk : ∀ r σ', Q1 r σ' → zX σ σ' → zE ph (d + 1) kc2 ks2 M (pc + 3) L (r.toList ++ S) σ' Q) (hkc : kc1 + kc2 = kc) (hks : ks1 + ks2 = ks) : zE ph (d + 1) kc ks M pc L S0 σ Q := by
  subst hst
  subst hkc
  subst hks
  intro D acl z p l e R s m args below meth c1 H locs cells slots σe ls Zp mc ms hx h1 h2 h3 h4 h5 h6 hR hZ hS hX hL hV hQ
  have hx0 := hx
  obtain ⟨x1, x2, x3, x4, x5, x6, x7, x8, x9⟩ := hx
  have hVS : ∀ v ∈ S, zok σ v := fun v h => hV v (List.mem_append_right _ (List.mem_cons_of_mem _ h))
  have hVb : zok σ (.inr (.inr (c, j))) := hV _ (List.mem_append_right _ List.mem_cons_self)
  have hVA : ∀ v ∈ (.inr (.inr (c, j)) :: As : List zV), zok σ v := by
    simp only [List.forall_mem_cons]
    exact ⟨hVb, fun v h => hV v (List.mem_append_left _ (List.mem_reverse.mpr h))⟩
  have hj : j < zcn σ c := hVb.resolve_left (by simp only; omega)
  have est : (As.reverse ++ .inr (.inr (c, j)) :: S).map (zc σ) = (As.map (zc σ)).reverse ++ .ref (zad σ c j) :: S.map (zc σ) := by rw [List.map_append, List.map_reverse, List.map_cons, zok_ad h0]
  rw [est]
  have hcb := zcallB (kc1 := kc1) (ks1 := ks1) (M := M) (s := s) (args := args) (R := R) x5 hm.1 hm.2.1 h1 h2
  rw [hm.2.2.2.2] at hcb
  have hCD := hC D acl z l
  rw [hm.2.2.2.2] at hCD
  exact z_call (va_runI (S := ⟨x1, x2, x3, x4, x5⟩) hCD ⟨hcb, hm.2.2.2.1, x5 _ hm.2.2.1⟩ ⟨zPc_blind, fun U hU hW => by
    have := zPc_at hVA hR x6 x9 hZ hX hS hU hW
    rw [List.map_cons, zok_ad h0] at this
    exact this⟩ rfl (by rw [List.length_map]; exact hn) (by exact hL.1) rfl (lv_room (by rw [zcatsum]; exact hS8)) hd (by omega)) hx0 h1 h2 h3 h4 h5 h6 hR hZ hS hX hL hVS hQ kk
theorem r_callIN {c j : Nat} (hm : zMIN M.1.cls idx M' n) (hn : As.length = n) (h0 : 0 < c) (hst : S0 = As.reverse ++ .inr (.inr (c, j)) :: S) (hd : decode M.2.1 pc = .ok (.invokespecial idx, 3)) (hS8 : (S.map zcat).sum ≤ 8) (hC : zC ph d kc1 ks1 M' (.inr (.inr (c, j)) :: As) σ Q1) (kk : ∀ r σ', Q1 r σ' → zX σ σ' → zE ph (d + 1) kc2 ks2 M (pc + 3) L (r.toList ++ S) σ' Q) (hkc : kc1 + kc2 = kc) (hks : ks1 + ks2 = ks) : zE ph (d + 1) kc ks M pc L S0 σ Q := by
  subst hst
  subst hkc
  subst hks
  intro D acl z p l e R s m args below meth c1 H locs cells slots σe ls Zp mc ms hx h1 h2 h3 h4 h5 h6 hR hZ hS hX hL hV hQ
  have hx0 := hx
  obtain ⟨x1, x2, x3, x4, x5, x6, x7, x8, x9⟩ := hx
  have hVS : ∀ v ∈ S, zok σ v := fun v h => hV v (List.mem_append_right _ (List.mem_cons_of_mem _ h))
  have hVb : zok σ (.inr (.inr (c, j))) := hV _ (List.mem_append_right _ List.mem_cons_self)
  have hVA : ∀ v ∈ (.inr (.inr (c, j)) :: As : List zV), zok σ v := by
    simp only [List.forall_mem_cons]
    exact ⟨hVb, fun v h => hV v (List.mem_append_left _ (List.mem_reverse.mpr h))⟩
  have hj : j < zcn σ c := hVb.resolve_left (by simp only; omega)
  have est : (As.reverse ++ .inr (.inr (c, j)) :: S).map (zc σ) = (As.map (zc σ)).reverse ++ .ref (zad σ c j) :: S.map (zc σ) := by rw [List.map_append, List.map_reverse, List.map_cons, zok_ad h0]
  rw [est]
  have hcb := zcallN (kc1 := kc1) (ks1 := ks1) (M := M) (s := s) (args := args) (R := R) x5 hm.1 hm.2.1 x9 h1 h2
  rw [hm.2.2.2.2] at hcb
  have hCD := hC D acl z l
  rw [hm.2.2.2.2] at hCD
  exact z_call (va_runIN (S := ⟨x1, x2, x3, x4, x5⟩) hCD ⟨hcb, hm.2.2.2.1, x5 _ hm.2.2.1⟩ ⟨zPc_blind, fun U hU hW => by
    have := zPc_at hVA hR x6 x9 hZ hX hS hU hW
    rw [List.map_cons, zok_ad h0] at this
    exact this⟩ rfl (by rw [List.length_map]; exact hn) (by exact hL.1) rfl (lv_room (by rw [zcatsum]; exact hS8)) hd (by omega)) hx0 h1 h2 h3 h4 h5 h6 hR hZ hS hX hL hVS hQ kk
theorem r_objInit {c j : Nat} (h0 : 0 < c) (hm : Cond.methodLink M.1.cls idx Lib.objectInit ∈ zT ∧ Cond.instanceMethod Lib.objectInit ∈ zT ∧ Cond.code Lib.objectInit ⟨#[0xb1]⟩ 1 none ∈ zT) (hd : decode M.2.1 pc = .ok (.invokespecial idx, 3)) (hS8 : (S.map zcat).sum ≤ 8) (kk : zE ph (d + 1) kc ks M (pc + 3) L S σ Q) : zE ph (d + 1) kc ks M pc L (.inr (.inr (c, j)) :: S) σ Q := by
  intro D acl z p l e R s m args below meth c1 H locs cells slots σe ls Zp mc ms hx h1 h2 h3 h4 h5 h6 hR hZ hS hX hL hV hQ
  have hx0 := hx
  obtain ⟨x1, x2, x3, x4, x5, x6, x7, x8, x9⟩ := hx
  simp only [List.forall_mem_cons] at hV
  rw [List.map_cons, zok_ad h0]
  exact W.objInit x1 x2 x4 (x5 _ hm.1) (x5 _ hm.2.1) (x5 _ hm.2.2) rfl (by rw [x3]; exact hL.1) rfl hd (by omega) (by rw [zcatsum]; show 2 * 0 + _ + 12 ≤ _; omega) (kk D acl z p l e R s m args below meth c1 H locs cells slots σe ls Zp mc ms hx0 h1 h2 h3 h4 h5 h6 hR hZ hS hX hL hV.2 hQ)
/-- the four static rows of the turnings -/
theorem r_gets {c : Nat} {nm : String} (hc : (c = 2 ∧ nm = "XX") ∨ (c = 3 ∧ nm = "XY") ∨ (c = 4 ∧ nm = "YX") ∨ (c = 5 ∧ nm = "YY")) (hl : Cond.fieldLink M.1.cls idx "HeardPlaces$Flips" nm "[I" ∈ zT) (hd : decode M.2.1 pc = .ok (.getstatic idx, 3)) (kk : zE ph d kc ks M (pc + 3) L (.inr (.inr (c, 0)) :: S) σ Q) : zE ph d kc ks M pc L S σ Q := by
  intro D acl z p l e R s m args below meth c1 H locs cells slots σe ls Zp mc ms hx h1 h2 h3 h4 h5 h6 hR hZ hS hX hL hV hQ
  have hx0 := hx
  obtain ⟨x1, x2, x3, x4, x5, x6, x7, x8, x9⟩ := hx
  obtain ⟨⟨a1, a2, a3, a4⟩, h5', -⟩ := id hZ
  have h0 : 0 < c ∧ c < 6 := by omega
  have hz0 := hX.1 c 0 (h5' c h0.2)
  have hk := kk D acl z p l e R s m args below meth c1 H locs cells slots σe ls Zp mc ms hx0 h1 h2 h3 h4 h5 h6 hR hZ hS hX hL (by simp only [List.forall_mem_cons]; exact ⟨Or.inr hz0.1, hV⟩) hQ
  rw [List.map_cons, zok_ad h0.1, hz0.2] at hk
  have hZ' : va_Z "HeardPlaces$Flips" nm "[I" (.ref (zad σe c 0)) (zA z) s s.heap := by
    rcases hc with ⟨rfl, rfl⟩ | ⟨rfl, rfl⟩ | ⟨rfl, rfl⟩ | ⟨rfl, rfl⟩ <;> assumption
  exact va_gets x1 x2 hZ' hS x4 (x5 _ hl) (fun x h => h) hd hk
end zR5
