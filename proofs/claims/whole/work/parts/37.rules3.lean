/-! rules that make rows -/
section zNr
variable {ph : Bool} {d kc ks : Nat} {M : zMth} {pc : Nat} {L : List (Option zV)} {S : List zV} {σ : zSt} {Q : Option zV → zSt → Prop} {idx k c j : Nat}
theorem nI_nneg {n : Nat} (h : n < 2 ^ 31) : ¬ nI n < 0 := by
  rw [Int32.lt_iff_toInt_lt, nI_toInt h, Int32.toInt_zero]
  omega
/-- numbers, bits -/
theorem r_newa {at' : ArrayType} {ty : FieldType} {kd n : Nat} {x : Int32} (hat : newarray.typeOf at' = ty) (hkd : (kd = 0 ∧ ty = .int) ∨ (kd = 1 ∧ ty = .long) ∨ (kd = 2 ∧ ty = .boolean)) (hw : Cond.arrayClass (newarray.typeOf at') ∈ zT) (hc : zkd c = kd) (h5 : 5 < c) (hn : zLn.getD c 0 = n) (hn2 : n ≤ 60000) (hx9 : x = nI n) (hks : ks = n + k) (hd : decode M.2.1 pc = .ok (.newarray at', 2)) (kk : zE ph d kc k M (pc + 2) L (.inr (.inr (c, zcn σ c)) :: S) (znew σ c) Q) (hK : ph = true → ∀ j k, k < n → (zct c j k).1 = 0) : zE ph d (1 + kc) ks M pc L (.inl x :: S) σ Q := by
  intro D acl z p l e R s m args below meth c1 H locs cells slots σe ls Zp mc ms hx h1 h2 h3 h4 h5' h6 hR hZ hS hX hL hV hQ
  have hx0 := hx
  subst hx9
  subst hks
  simp only [List.forall_mem_cons] at hV
  obtain ⟨x1, x2, x3, x4, x5, x6, x7, x8⟩ := hx
  have hl : zln (znew σ c) c = n := by rw [zln_ne h5, hn]
  rw [List.map_cons]
  refine va_newaK x1 x2 (x5 _ hw) rfl hd rfl (nI_nneg (by omega)) (nI_clamp (by omega)) (by
    have : componentBytes (newarray.typeOf at') ≤ 8 := by rw [hat]; rcases hkd with ⟨-, rfl⟩ | ⟨-, rfl⟩ | ⟨-, rfl⟩ <;> decide
    calc n * componentBytes (newarray.typeOf at') ≤ 60000 * 8 := Nat.mul_le_mul hn2 this
      _ ≤ 536870912 := by decide) (by omega) (by omega) rfl fun H1 cA e1 z1 o1 hAr hNm => ?_
  have hX1 : zX σ (znew σ c) := znew_X
  have hR' : zRP ph D acl z (znew σ c) H1 := by
    refine hR.mk h5 z1 o1 ?_ (fun hp k hk => hK hp _ k (by rw [← hn]; exact hk (by rw [hc]; rcases hkd with ⟨h, -⟩ | ⟨h, -⟩ | ⟨h, -⟩ <;> omega)))
    rw [hat] at e1 hNm
    rcases hkd with ⟨rfl, rfl⟩ | ⟨rfl, rfl⟩ | ⟨rfl, rfl⟩
    · have hcA : cA = acl 0 := Option.some.inj (hNm.symm.trans (x6.2 0 _ rfl).2)
      rw [zen_ai hc, hl]
      show H1[H.size]? = some (vp_cell _ _)
      rw [e1, hcA, vp_cell_i]
      congr 2
      funext q
      rw [zgi_new, if_pos ⟨rfl, rfl⟩]
      rfl
    · have hcA : cA = acl 1 := Option.some.inj (hNm.symm.trans (x6.2 1 _ rfl).2)
      rw [zen_al hc, hl]
      show H1[H.size]? = some (vp_cell _ _)
      rw [e1, hcA, vp_cell_l]
      congr 2
      funext q
      rw [zgl_new, if_pos ⟨rfl, rfl⟩]
      rfl
    · have hcA : cA = acl 2 := Option.some.inj (hNm.symm.trans (x6.2 2 _ rfl).2)
      rw [zen_az hc, hl]
      show H1[H.size]? = some (vp_cell _ _)
      rw [e1, hcA, vp_cell_i]
      congr 2
      funext q
      rw [zgi_new, if_pos ⟨rfl, rfl⟩]
      rfl
  have e9 : Value.ref H.size = zc (znew σ c) (.inr (.inr (c, zcn σ c))) := by
    rw [zok_ad (by omega), zad_new, if_pos ⟨rfl, rfl⟩, hR.1]
  have e8 : S.map (zc σ) = S.map (zc (znew σ c)) := List.map_congr_left (fun v hv => (zc.mono hX1 (hV.2 v hv)).symm)
  have := kk D acl z p l e R s m args below meth c1 H1 locs (cells + 1) (slots + n) σe ls Zp mc ms hx0 h1 h2 h3 h4 (by omega) (by omega) hR' hZ (hS.grow z1 o1) (hX.tr hX1) (hL.mono hX1) (by
    simp only [List.forall_mem_cons]
    exact ⟨Or.inr (by show zcn σ c < zcn (znew σ c) c; rw [zcn_new, if_pos rfl]; omega), fun v hv => (hV.2 v hv).mono hX1⟩) hQ
  rw [List.map_cons, ← e9, ← e8] at this
  exact this
/-- references to objects -/
theorem r_anew {C : String} {kd n : Nat} {x : Int32} (hw : Cond.classLink M.1.cls idx C ∈ zT) (ho : Cond.arrayOver (.object C) ∈ lw_tbl) (hty : ∀ acl : Nat → ClassId, (zts acl)[kd]? = some (acl kd, .object C)) (hkd : 3 ≤ kd ∧ kd < 20) (hc : zkd c = kd) (h5 : 5 < c) (hn : zLn.getD c 0 = n) (hn2 : n ≤ 60000) (hx9 : x = nI n) (hks : ks = n + k) (hd : decode M.2.1 pc = .ok (.anewarray idx, 3)) (kk : zE ph d kc k M (pc + 3) L (.inr (.inr (c, zcn σ c)) :: S) (znew σ c) Q) (hK : ph = true → ∀ j k, k < n → (zct c j k).1 = 0) : zE ph d (1 + kc) ks M pc L (.inl x :: S) σ Q := by
  intro D acl z p l e R s m args below meth c1 H locs cells slots σe ls Zp mc ms hx h1 h2 h3 h4 h5' h6 hR hZ hS hX hL hV hQ
  have hx0 := hx
  subst hx9
  subst hks
  simp only [List.forall_mem_cons] at hV
  obtain ⟨x1, x2, x3, x4, x5, x6, x7, x8, x9⟩ := hx
  have hl : zln (znew σ c) c = n := by rw [zln_ne h5, hn]
  have hcl : (nI n).toNatClampNeg = n := nI_clamp (by omega)
  rw [List.map_cons]
  refine W.anew x1 x2 x4 (x5 _ hw) (va_AO.use (x9.2.1 C ho)) rfl hd rfl (nI_nneg (by omega)) (by omega) (by omega) (by rw [hcl]; omega) fun cA kA comp f1 f2 f3 f4 => ?_
  rw [hcl]
  generalize hH1 : H.push ({ cls := cA, slots := Array.replicate n .null, vm := .none } : Cell) = H1
  have z1 : H1.size = H.size + 1 := by rw [← hH1, Array.size_push]
  have e1 : H1[H.size]? = some (arrV cA n (fun _ => .null)) := by rw [← hH1, Array.getElem?_push_size, ← arrV_new]
  have o1 : ∀ q : Nat, q < H.size → H1[q]? = H[q]? := fun q hq => by rw [← hH1, Array.getElem?_push, if_neg (Nat.ne_of_lt hq)]
  have hX1 : zX σ (znew σ c) := znew_X
  have hR' : zRP ph D acl z (znew σ c) H1 := by
    refine hR.mk h5 z1 o1 ?_ (fun hp k hk => hK hp _ k (by rw [← hn]; exact hk (by omega)))
    obtain ⟨kB, cB, b1, b2, b3, b4⟩ := (x6.2 kd _ (hty acl)).2
    have hcA : cA = acl kd := Option.some.inj (f1.symm.trans b4)
    rw [zen_aq hc hkd.1 hkd.2, hl]
    show H1[H.size]? = some (vp_cell _ _)
    rw [e1, hcA, vp_cell_q]
    congr 2
    funext q
    rw [zgr_new, if_pos ⟨rfl, rfl⟩]
    rfl
  have e9 : Value.ref H.size = zc (znew σ c) (.inr (.inr (c, zcn σ c))) := by
    rw [zok_ad (by omega), zad_new, if_pos ⟨rfl, rfl⟩, hR.1]
  have e8 : S.map (zc σ) = S.map (zc (znew σ c)) := List.map_congr_left (fun v hv => (zc.mono hX1 (hV.2 v hv)).symm)
  have := kk D acl z p l e R s m args below meth c1 H1 locs (cells + 1) (slots + n) σe ls Zp mc ms hx0 h1 h2 h3 h4 (by omega) (by omega) hR' hZ (hS.grow z1 o1) (hX.tr hX1) (hL.mono hX1) (by
    simp only [List.forall_mem_cons]
    exact ⟨Or.inr (by show zcn σ c < zcn (znew σ c) c; rw [zcn_new, if_pos rfl]; omega), fun v hv => (hV.2 v hv).mono hX1⟩) hQ
  rw [List.map_cons, ← e9, ← e8] at this
  exact this
/-- the copying of a row of longs into another -/
def zcpy (σ : zSt) (c1 j1 c2 j2 a b n : Nat) : zSt := (σ.1, fun x y e => if x = c2 ∧ y = j2 ∧ b ≤ e ∧ e < b + n then σ.2.1 c1 j1 (a + (e - b)) else σ.2.1 x y e, σ.2.2)
end zNr
