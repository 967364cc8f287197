/-! stores into fields, rows of numbers, rows of references -/
theorem zone {D : va_G} {cl : List vw_C} {q : Nat × va_E} {H : Heap} (h : va_at D cl q H) : va_P D cl [q] H := by
  intro k x hx
  match k, hx with
  | 0, hx => cases hx; exact h
section zR3
variable {ph : Bool} {d kc ks : Nat} {M : zMth} {pc : Nat} {L : List (Option zV)} {S : List zV} {σ : zSt} {Q : Option zV → zSt → Prop} {idx ci k c j : Nat}
theorem zen_si_ne (acl : Nat → ClassId) {x : Int32} {c' j' : Nat} (h : ¬ (c' = c ∧ j' = j)) : zen acl (zsi σ c j k x) c' j' = zen acl σ c' j' :=
  zen_ne (σ := σ) (σ' := zsi σ c j k x) rfl (fun k' => by rw [zgi_si σ c j k c' j' k' x, if_neg (fun e => h ⟨e.1, e.2.1⟩)]) (fun _ => rfl) (fun _ => rfl)
theorem zen_sl_ne (acl : Nat → ClassId) {x : Int64} {c' j' : Nat} (h : ¬ (c' = c ∧ j' = j)) : zen acl (zsl σ c j k x) c' j' = zen acl σ c' j' :=
  zen_ne (σ := σ) (σ' := zsl σ c j k x) rfl (fun _ => rfl) (fun k' => by rw [zgl_sl σ c j k c' j' k' x, if_neg (fun e => h ⟨e.1, e.2.1⟩)]) (fun _ => rfl)
theorem zen_sr_ne (acl : Nat → ClassId) {x : Nat × Nat} {c' j' : Nat} (h : ¬ (c' = c ∧ j' = j)) : zen acl (zsr σ c j k x) c' j' = zen acl σ c' j' :=
  zen_ne (σ := σ) (σ' := zsr σ c j k x) rfl (fun _ => rfl) (fun _ => rfl) (fun k' => by rw [zgr_sr σ c j k c' j' k' x, if_neg (fun e => h ⟨e.1, e.2.1⟩)])
theorem zfv_si {t : FieldType} {x : Int32} {c' j' k' : Nat} (h : ¬ (c' = c ∧ j' = j ∧ k' = k)) : zfv (zsi σ c j k x) t c' j' k' = zfv σ t c' j' k' := by
  unfold zfv
  simp only [zgi_si, zgl_si, zgr_si, if_neg h, zrv_eq (σ := σ) (σ' := zsi σ c j k x) rfl]
theorem zfv_sl {t : FieldType} {x : Int64} {c' j' k' : Nat} (h : ¬ (c' = c ∧ j' = j ∧ k' = k)) : zfv (zsl σ c j k x) t c' j' k' = zfv σ t c' j' k' := by
  unfold zfv
  simp only [zgi_sl, zgl_sl, zgr_sl, if_neg h, zrv_eq (σ := σ) (σ' := zsl σ c j k x) rfl]
theorem zfv_sr {t : FieldType} {x : Nat × Nat} {c' j' k' : Nat} (h : ¬ (c' = c ∧ j' = j ∧ k' = k)) : zfv (zsr σ c j k x) t c' j' k' = zfv σ t c' j' k' := by
  unfold zfv
  simp only [zgi_sr, zgl_sr, zgr_sr, if_neg h, zrv_eq (σ := σ) (σ' := zsr σ c j k x) rfl]
def zvar (ci k : Nat) : Prop := ∀ q, vwCl[ci]? = some q → (q.2.1 k).2.2.2 = false
theorem r_putI {x : Int32} (hf : zFR M.1.cls idx ci k) (hfin : zvar ci k) (hc : zkd c = 20 + ci) (h5 : 5 < c) (ht : zty ci k = .int) (hd : decode M.2.1 pc = .ok (.putfield idx, 3)) (kk : zE ph d kc ks M (pc + 3) L S (zsi σ c j k x) Q) : zE ph d kc ks M pc L (.inl x :: .inr (.inr (c, j)) :: S) σ Q :=
  z_put (v := .inl x) (σ' := zsi σ c j k x) hf hfin hc (by omega) ht rfl rfl rfl (by show Value.int _ = _; rw [zgi_si, if_pos ⟨rfl, rfl, rfl⟩]; rfl) (fun k' h => zfv_si (fun e => h e.2.2)) (fun acl c' j' h => zen_si_ne acl h) (fun _ _ _ _ _ _ h => h) (fun h => zK.of (fun _ _ _ => rfl) rfl h) hd kk h5
theorem r_putZ {x : Int32} (hx : x = 0 ∨ x = 1) (hf : zFR M.1.cls idx ci k) (hfin : zvar ci k) (hc : zkd c = 20 + ci) (h5 : 5 < c) (ht : zty ci k = .boolean) (hd : decode M.2.1 pc = .ok (.putfield idx, 3)) (kk : zE ph d kc ks M (pc + 3) L S (zsi σ c j k x) Q) : zE ph d kc ks M pc L (.inl x :: .inr (.inr (c, j)) :: S) σ Q :=
  z_put (v := .inl x) (σ' := zsi σ c j k x) hf hfin hc (by omega) ht (by rcases hx with rfl | rfl <;> rfl) (by rcases hx with rfl | rfl <;> rfl) rfl (by show Value.int _ = _; rw [zgi_si, if_pos ⟨rfl, rfl, rfl⟩]; rfl) (fun k' h => zfv_si (fun e => h e.2.2)) (fun acl c' j' h => zen_si_ne acl h) (fun _ _ _ _ _ _ h => h) (fun h => zK.of (fun _ _ _ => rfl) rfl h) hd kk h5
theorem r_putL {x : Int64} (hf : zFR M.1.cls idx ci k) (hfin : zvar ci k) (hc : zkd c = 20 + ci) (h5 : 5 < c) (ht : zty ci k = .long) (hd : decode M.2.1 pc = .ok (.putfield idx, 3)) (kk : zE ph d kc ks M (pc + 3) L S (zsl σ c j k x) Q) : zE ph d kc ks M pc L (.inr (.inl x) :: .inr (.inr (c, j)) :: S) σ Q :=
  z_put (v := .inr (.inl x)) (σ' := zsl σ c j k x) hf hfin hc (by omega) ht rfl rfl rfl (by show Value.long _ = _; rw [zgl_sl, if_pos ⟨rfl, rfl, rfl⟩]; rfl) (fun k' h => zfv_sl (fun e => h e.2.2)) (fun acl c' j' h => zen_sl_ne acl h) (fun _ _ _ _ _ _ h => h) (fun h => zK.of (fun _ _ _ => rfl) rfl h) hd kk h5
-- rows
theorem zen_ai {acl : Nat → ClassId} (hc : zkd c = 0) : zen acl σ c j = .inl (acl 0, zln σ c, .inl (fun k => zgi σ c j k)) := by unfold zen; rw [hc]; rfl
theorem zen_al {acl : Nat → ClassId} (hc : zkd c = 1) : zen acl σ c j = .inl (acl 1, zln σ c, .inr (.inl (fun k => zgl σ c j k))) := by unfold zen; rw [hc]; rfl
theorem zen_az {acl : Nat → ClassId} (hc : zkd c = 2) : zen acl σ c j = .inl (acl 2, zln σ c, .inl (fun k => zgi σ c j k)) := by unfold zen; rw [hc]; rfl
theorem zen_aq {acl : Nat → ClassId} {n : Nat} (hc : zkd c = n) (h1 : 3 ≤ n) (h2 : n < 20) : zen acl σ c j = .inl (acl n, zln σ c, .inr (.inr (.inr (.inr (fun k => zrv σ (zgr σ c j k)))))) := by
  unfold zen; rw [if_pos (by omega), if_neg (by omega), if_neg (by omega), hc]
theorem r_iald {i : Int32} (hc : zkd c = 0) (h0 : 0 < c) (hin : vp_in i (zln σ c)) (hd : decode M.2.1 pc = .ok (.iaload, 1)) (kk : zE ph d kc ks M (pc + 1) L (.inl (zgi σ c j i.toNatClampNeg) :: S) σ Q) : zE ph d kc ks M pc L (.inl i :: .inr (.inr (c, j)) :: S) σ Q := by
  intro D acl z p l e R s m args below meth c1 H locs cells slots σe ls Zp mc ms hx h1 h2 h3 h4 h5 h6 hR hZ hS hX hL hV hQ
  have hx0 := hx
  obtain ⟨x1, x2, x3, x4, x5, x6, x7, x8⟩ := hx
  simp only [List.forall_mem_cons] at hV
  have hj : j < zcn σ c := hV.2.1.resolve_left (by simp only; omega)
  have hk := kk D acl z p l e R s m args below meth c1 H locs cells slots σe ls Zp mc ms hx0 h1 h2 h3 h4 h5 h6 hR hZ hS hX hL (by simp only [List.forall_mem_cons]; exact ⟨trivial, hV.2.2⟩) hQ
  rw [List.map_cons, List.map_cons, zok_ad h0]
  rcases Nat.lt_or_ge 5 c with h5' | h5'
  · have hat := hR.2.2.1 c j h5' hj
    rw [zen_ai hc] at hat
    exact va_iald x1 x2 x6 (zone hat) 0 0 rfl rfl hin hd hk
  · obtain ⟨a1, a2, cell, a3, a4, a5, a6⟩ := hR.2.1.2 c h0 (by omega)
    obtain ⟨cell', b1, b2, b3⟩ := hZ.2.2 c h0 (by omega)
    have hj0 : j = 0 := by omega
    subst hj0
    rw [← (hX.1 c 0 (hZ.2.1 c (by omega))).2] at b1 b3
    have e : H[zad σ c 0]? = s.heap[zad σ c 0]? := hS.2.1 _ (Array.getElem?_eq_some_iff.mp b1).1 (Nat.not_le.mpr b3)
    have ec : cell = cell' := Option.some.inj (a3.symm.trans (e.trans b1))
    subst ec
    have hlt : i.toNatClampNeg < zln σ c := Nat.not_le.mp fun q => hin (Or.inr q)
    exact W.iald x1 x2 a3 b2 a4 (fun q => by
      rcases q with q | q
      · exact hin (Or.inl q)
      · have := a5.1; omega) (a6 _ hlt) rfl rfl hd hk
theorem r_bald {i : Int32} (hc : zkd c = 2) (h0 : 0 < c) (hin : vp_in i (zln σ c)) (hd : decode M.2.1 pc = .ok (.baload, 1)) (kk : zE ph d kc ks M (pc + 1) L (.inl (zgi σ c j i.toNatClampNeg) :: S) σ Q) : zE ph d kc ks M pc L (.inl i :: .inr (.inr (c, j)) :: S) σ Q := by
  intro D acl z p l e R s m args below meth c1 H locs cells slots σe ls Zp mc ms hx h1 h2 h3 h4 h5 h6 hR hZ hS hX hL hV hQ
  have hx0 := hx
  obtain ⟨x1, x2, x3, x4, x5, x6, x7, x8⟩ := hx
  simp only [List.forall_mem_cons] at hV
  have hj : j < zcn σ c := hV.2.1.resolve_left (by simp only; omega)
  have hat := hR.2.2.1 c j (zk5 h0 (by omega)) hj
  rw [zen_az hc] at hat
  have hk := kk D acl z p l e R s m args below meth c1 H locs cells slots σe ls Zp mc ms hx0 h1 h2 h3 h4 h5 h6 hR hZ hS hX hL (by simp only [List.forall_mem_cons]; exact ⟨trivial, hV.2.2⟩) hQ
  rw [List.map_cons, List.map_cons, zok_ad h0]
  exact va_zald x1 x2 x6 (zone hat) 0 2 rfl rfl hin hd hk
theorem r_lald {i : Int32} (hc : zkd c = 1) (h0 : 0 < c) (hin : vp_in i (zln σ c)) (hd : decode M.2.1 pc = .ok (.laload, 1)) (kk : zE ph d kc ks M (pc + 1) L (.inr (.inl (zgl σ c j i.toNatClampNeg)) :: S) σ Q) : zE ph d kc ks M pc L (.inl i :: .inr (.inr (c, j)) :: S) σ Q := by
  intro D acl z p l e R s m args below meth c1 H locs cells slots σe ls Zp mc ms hx h1 h2 h3 h4 h5 h6 hR hZ hS hX hL hV hQ
  have hx0 := hx
  obtain ⟨x1, x2, x3, x4, x5, x6, x7, x8⟩ := hx
  simp only [List.forall_mem_cons] at hV
  have hj : j < zcn σ c := hV.2.1.resolve_left (by simp only; omega)
  have hat := hR.2.2.1 c j (zk5 h0 (by omega)) hj
  rw [zen_al hc] at hat
  have hk := kk D acl z p l e R s m args below meth c1 H locs cells slots σe ls Zp mc ms hx0 h1 h2 h3 h4 h5 h6 hR hZ hS hX hL (by simp only [List.forall_mem_cons]; exact ⟨trivial, hV.2.2⟩) hQ
  rw [List.map_cons, List.map_cons, zok_ad h0]
  exact va_lald x1 x2 x6 (zone hat) 0 1 rfl rfl hin hd hk
theorem r_aald {i : Int32} {n : Nat} (hc : zkd c = n) (hn : 3 ≤ n ∧ n < 9) (h0 : 0 < c) (hin : vp_in i (zln σ c)) (hd : decode M.2.1 pc = .ok (.aaload, 1)) (kk : zE ph d kc ks M (pc + 1) L (.inr (.inr (zgr σ c j i.toNatClampNeg)) :: S) σ Q) : zE ph d kc ks M pc L (.inl i :: .inr (.inr (c, j)) :: S) σ Q := by
  intro D acl z p l e R s m args below meth c1 H locs cells slots σe ls Zp mc ms hx h1 h2 h3 h4 h5 h6 hR hZ hS hX hL hV hQ
  have hx0 := hx
  obtain ⟨x1, x2, x3, x4, x5, x6, x7, x8⟩ := hx
  simp only [List.forall_mem_cons] at hV
  have hj : j < zcn σ c := hV.2.1.resolve_left (by simp only; omega)
  have hat := hR.2.2.1 c j (zk5 h0 (by omega)) hj
  rw [zen_aq hc hn.1 (by omega)] at hat
  have hk := kk D acl z p l e R s m args below meth c1 H locs cells slots σe ls Zp mc ms hx0 h1 h2 h3 h4 h5 h6 hR hZ hS hX hL (by simp only [List.forall_mem_cons]; exact ⟨hR.2.2.2.2.2.1 c j _ h0 hj, hV.2.2⟩) hQ
  rw [List.map_cons, List.map_cons, zok_ad h0]
  obtain ⟨ty, hty, hrk⟩ : ∃ ty, (zts acl)[n]? = some (acl n, ty) ∧ refKind ty = true := by
    have : n = 3 ∨ n = 4 ∨ n = 5 ∨ n = 6 ∨ n = 7 ∨ n = 8 := by omega
    rcases this with rfl | rfl | rfl | rfl | rfl | rfl <;> exact ⟨_, rfl, rfl⟩
  have hlt : i.toNatClampNeg < zln σ c := Nat.not_le.mp fun q => hin (Or.inr q)
  exact W.aald (v := va_rf (zrv σ (zgr σ c j i.toNatClampNeg))) (ty := ty) x1 x2 hat ((x6.2 n _ hty).1 _ (fun j' => va_rf (zrv σ (zgr σ c j j')))) hrk (fun q => by cases q) (by show ¬ (i < 0 ∨ (arrV _ _ _).slots.size ≤ _); rw [arrV_size]; exact hin) (by show (arrV _ _ _).slots[_]? = _; rw [arrV_read _ _ hlt]) rfl rfl hd hk
theorem r_aaldC {i : Int32} {n c2 j2 : Nat} (hc : zkd c = n) (hn : 3 ≤ n ∧ n < 9) (h0 : 1 < c) (hin : vp_in i (zln σ c)) (h9 : zct c j i.toNatClampNeg = (c2, j2)) (h8 : c2 ≠ 0) (hd : decode M.2.1 pc = .ok (.aaload, 1)) (kk : zE true d kc ks M (pc + 1) L (.inr (.inr (c2, j2)) :: S) σ Q) : zE true d kc ks M pc L (.inl i :: .inr (.inr (c, j)) :: S) σ Q := by
  intro D acl z p l e R s m args below meth c1 H locs cells slots σe ls Zp mc ms hx h1 h2 h3 h4 h5 h6 hR hZ hS hX hL hV hQ
  have hV0 := hV
  simp only [List.forall_mem_cons] at hV
  have hj : j < zcn σ c := hV.2.1.resolve_left (by simp only; omega)
  have hlt : i.toNatClampNeg < zln σ c := Nat.not_le.mp fun q => hin (Or.inr q)
  have e9 : zgr σ c j i.toNatClampNeg = (c2, j2) := by rw [hR.2.2.2.2.2.2 rfl c j _ (by omega) hj (by rw [h9]; exact h8) (fun _ => by unfold zln at hlt; rw [if_neg (by omega)] at hlt; exact hlt), h9]
  rw [← e9] at kk
  exact r_aald hc hn (by omega) hin hd kk D acl z p l e R s m args below meth c1 H locs cells slots σe ls Zp mc ms hx h1 h2 h3 h4 h5 h6 hR hZ hS hX hL hV0 hQ
theorem r_iast {i : Int32} {x : Int32} (hc : zkd c = 0) (hc5 : 5 < c) (hin : vp_in i (zln σ c)) (hd : decode M.2.1 pc = .ok (.iastore, 1)) (kk : zE ph d kc ks M (pc + 1) L S (zsi σ c j i.toNatClampNeg x) Q) : zE ph d kc ks M pc L (.inl x :: .inl i :: .inr (.inr (c, j)) :: S) σ Q := by
  intro D acl z p l e R s m args below meth c1 H locs cells slots σe ls Zp mc ms hx h1 h2 h3 h4 h5 h6 hR hZ hS hX hL hV hQ
  have hx0 := hx
  obtain ⟨x1, x2, x3, x4, x5, x6, x7, x8⟩ := hx
  simp only [List.forall_mem_cons] at hV
  have h0 : 0 < c := by omega
  have hj : j < zcn σ c := hV.2.2.1.resolve_left (by simp only; omega)
  have hat := hR.2.2.1 c j hc5 hj
  rw [zen_ai hc] at hat
  rw [List.map_cons, List.map_cons, List.map_cons, zok_ad h0]
  refine W.iast x1 x2 hat ((x6.2 0 _ rfl).1 _ (fun k => .int (zgi σ c j k))) (fun q => by cases q) (by show ¬ (i < 0 ∨ (arrV _ _ _).slots.size ≤ _); rw [arrV_size]; exact hin) rfl rfl hd fun H1 e1 e2 e3 => ?_
  have hX1 : zX σ (zsi σ c j i.toNatClampNeg x) := zX.st rfl
  have hR' : zRP ph D acl z (zsi σ c j i.toNatClampNeg x) H1 := by
    refine hR.upd hc5 hj rfl (fun c' j' k' g0 gj => hR.2.2.2.2.2.1 c' j' k' g0 gj) (fun c' j' h => zen_si_ne acl h) ?_ e2 e3 (fun h => zK.of (fun _ _ _ => rfl) rfl h)
    rw [zen_ai hc]
    show H1[zad σ c j]? = some (vp_cell _ _)
    rw [e1, vp_cell_i, vp_cell_i, arrV_store]
    congr 2
    funext q
    by_cases hq : q = i.toNatClampNeg
    · subst hq
      simp only [updV, zgi_si, and_self, if_true]
      try rfl
    · simp [updV, zgi_si, hq]
  exact kk D acl z p l e R s m args below meth c1 H1 _ cells slots σe ls Zp mc ms hx0 h1 h2 h3 h4 h5 h6 hR' hZ (hS.put e2 e3 (hR.2.2.2.2.1 c j hc5 hj)) (hX.tr hX1) (hL.mono hX1) (fun v hv => (hV.2.2.2 v hv).mono hX1) hQ |> fun w => by rw [show S.map (zc (zsi σ c j i.toNatClampNeg x)) = S.map (zc σ) from List.map_congr_left (fun v hv => zc.mono hX1 (hV.2.2.2 v hv))] at w; exact w
theorem r_bast {i : Int32} {x : Int32} (h01 : x = 0 ∨ x = 1) (hc : zkd c = 2) (hc5 : 5 < c) (hin : vp_in i (zln σ c)) (hd : decode M.2.1 pc = .ok (.bastore, 1)) (kk : zE ph d kc ks M (pc + 1) L S (zsi σ c j i.toNatClampNeg x) Q) : zE ph d kc ks M pc L (.inl x :: .inl i :: .inr (.inr (c, j)) :: S) σ Q := by
  intro D acl z p l e R s m args below meth c1 H locs cells slots σe ls Zp mc ms hx h1 h2 h3 h4 h5 h6 hR hZ hS hX hL hV hQ
  have hx0 := hx
  obtain ⟨x1, x2, x3, x4, x5, x6, x7, x8⟩ := hx
  simp only [List.forall_mem_cons] at hV
  have h0 : 0 < c := by omega
  have hj : j < zcn σ c := hV.2.2.1.resolve_left (by simp only; omega)
  have hat := hR.2.2.1 c j hc5 hj
  rw [zen_az hc] at hat
  rw [List.map_cons, List.map_cons, List.map_cons, zok_ad h0]
  refine W.zast x1 x2 hat ((x6.2 2 _ rfl).1 _ (fun k => .int (zgi σ c j k))) (fun q => by cases q) (by show ¬ (i < 0 ∨ (arrV _ _ _).slots.size ≤ _); rw [arrV_size]; exact hin) rfl rfl hd fun H1 e1 e2 e3 => ?_
  have hX1 : zX σ (zsi σ c j i.toNatClampNeg x) := zX.st rfl
  have hR' : zRP ph D acl z (zsi σ c j i.toNatClampNeg x) H1 := by
    refine hR.upd hc5 hj rfl (fun c' j' k' g0 gj => hR.2.2.2.2.2.1 c' j' k' g0 gj) (fun c' j' h => zen_si_ne acl h) ?_ e2 e3 (fun h => zK.of (fun _ _ _ => rfl) rfl h)
    rw [zen_az hc]
    show H1[zad σ c j]? = some (vp_cell _ _)
    rw [e1, vp_cell_i, vp_cell_i, arrV_store]
    congr 2
    funext q
    by_cases hq : q = i.toNatClampNeg
    · subst hq
      simp only [updV, zgi_si, and_self, if_true]
      rcases h01 with rfl | rfl <;> rfl
    · simp [updV, zgi_si, hq]
  exact kk D acl z p l e R s m args below meth c1 H1 _ cells slots σe ls Zp mc ms hx0 h1 h2 h3 h4 h5 h6 hR' hZ (hS.put e2 e3 (hR.2.2.2.2.1 c j hc5 hj)) (hX.tr hX1) (hL.mono hX1) (fun v hv => (hV.2.2.2 v hv).mono hX1) hQ |> fun w => by rw [show S.map (zc (zsi σ c j i.toNatClampNeg x)) = S.map (zc σ) from List.map_congr_left (fun v hv => zc.mono hX1 (hV.2.2.2 v hv))] at w; exact w
theorem r_last {i : Int32} {x : Int64} (hc : zkd c = 1) (hc5 : 5 < c) (hin : vp_in i (zln σ c)) (hd : decode M.2.1 pc = .ok (.lastore, 1)) (kk : zE ph d kc ks M (pc + 1) L S (zsl σ c j i.toNatClampNeg x) Q) : zE ph d kc ks M pc L (.inr (.inl x) :: .inl i :: .inr (.inr (c, j)) :: S) σ Q := by
  intro D acl z p l e R s m args below meth c1 H locs cells slots σe ls Zp mc ms hx h1 h2 h3 h4 h5 h6 hR hZ hS hX hL hV hQ
  have hx0 := hx
  obtain ⟨x1, x2, x3, x4, x5, x6, x7, x8⟩ := hx
  simp only [List.forall_mem_cons] at hV
  have h0 : 0 < c := by omega
  have hj : j < zcn σ c := hV.2.2.1.resolve_left (by simp only; omega)
  have hat := hR.2.2.1 c j hc5 hj
  rw [zen_al hc] at hat
  rw [List.map_cons, List.map_cons, List.map_cons, zok_ad h0]
  refine W.last x1 x2 hat ((x6.2 1 _ rfl).1 _ (fun k => .long (zgl σ c j k))) (fun q => by cases q) (by show ¬ (i < 0 ∨ (arrV _ _ _).slots.size ≤ _); rw [arrV_size]; exact hin) rfl rfl hd fun H1 e1 e2 e3 => ?_
  have hX1 : zX σ (zsl σ c j i.toNatClampNeg x) := zX.st rfl
  have hR' : zRP ph D acl z (zsl σ c j i.toNatClampNeg x) H1 := by
    refine hR.upd hc5 hj rfl (fun c' j' k' g0 gj => hR.2.2.2.2.2.1 c' j' k' g0 gj) (fun c' j' h => zen_sl_ne acl h) ?_ e2 e3 (fun h => zK.of (fun _ _ _ => rfl) rfl h)
    rw [zen_al hc]
    show H1[zad σ c j]? = some (vp_cell _ _)
    rw [e1, vp_cell_l, vp_cell_l, arrV_store]
    congr 2
    funext q
    by_cases hq : q = i.toNatClampNeg
    · subst hq
      simp only [updV, zgl_sl, and_self, if_true]
      try rfl
    · simp [updV, zgl_sl, hq]
  exact kk D acl z p l e R s m args below meth c1 H1 _ cells slots σe ls Zp mc ms hx0 h1 h2 h3 h4 h5 h6 hR' hZ (hS.put e2 e3 (hR.2.2.2.2.1 c j hc5 hj)) (hX.tr hX1) (hL.mono hX1) (fun v hv => (hV.2.2.2 v hv).mono hX1) hQ |> fun w => by rw [show S.map (zc (zsl σ c j i.toNatClampNeg x)) = S.map (zc σ) from List.map_congr_left (fun v hv => zc.mono hX1 (hV.2.2.2 v hv))] at w; exact w
end zR3
