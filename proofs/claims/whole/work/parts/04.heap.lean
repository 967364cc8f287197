/-! rules of the heap: fields, rows -/
theorem zCl_ok : ∀ (ci : Nat) (q : vw_C), vwCl[ci]? = some q → (∀ w ∈ u_ws q.1 q.2.1 q.2.2, w ∈ zT) ∧ (∀ k, k < q.2.2 → parseFieldDescriptor (q.2.1 k).2.2.1 = some (zty ci k)) ∧ (∀ a, a < q.2.2 → ∀ b, b < q.2.2 → a ≠ b → (q.2.1 a).2.1 ≠ (q.2.1 b).2.1) ∧ q.2.2 = zNf.getD ci 0 := by
  intro ci q h
  match ci, h with
  | 0, h => cases h; exact ⟨inX0, tyX0_ok, nmX0, rfl⟩
  | 1, h => cases h; exact ⟨inX1, tyX1_ok, nmX1, rfl⟩
  | 2, h => cases h; exact ⟨inX2, tyX2_ok, nmX2, rfl⟩
  | 3, h => cases h; exact ⟨inX3, tyX3_ok, nmX3, rfl⟩
  | 4, h => cases h; exact ⟨inX4, tyX4_ok, nmX4, rfl⟩
  | 5, h => cases h; exact ⟨inX5, tyX5_ok, nmX5, rfl⟩
  | 6, h => cases h; exact ⟨inX6, tyX6_ok, nmX6, rfl⟩
  | 7, h => cases h; exact ⟨inX7, tyX7_ok, nmX7, rfl⟩
  | 8, h => cases h; exact ⟨inX8, tyX8_ok, nmX8, rfl⟩
  | 9, h => cases h; exact ⟨inX9, tyX9_ok, nmX9, rfl⟩
  | 10, h => cases h; exact ⟨inX10, tyX10_ok, nmX10, rfl⟩
  | 11, h => cases h; exact ⟨inX11, tyX11_ok, nmX11, rfl⟩
  | 12, h => cases h; exact ⟨inX12, tyX12_ok, nmX12, rfl⟩
  | k + 13, h => simp [vwCl] at h
/-- a field that the pool of a class names: field k of class ci -/
def zFR (own : String) (idx ci k : Nat) : Prop := ∃ q : vw_C, vwCl[ci]? = some q ∧ k < q.2.2 ∧ Cond.fieldLink own idx (q.2.1 k).1 (q.2.1 k).2.1 (q.2.1 k).2.2.1 ∈ zT
theorem zen_obj {acl : Nat → ClassId} {σ : zSt} {c j ci : Nat} (hc : zkd c = 20 + ci) : zen acl σ c j = .inr (ci, (List.range (zNf.getD ci 0)).map (fun k => zfv σ (zty ci k) c j k)) := by
  unfold zen
  rw [if_neg (by omega)]
  have : zkd c - 20 = ci := by omega
  rw [this]
section zW
variable {p : Program} {l : Launch} {e : Env} {R : Room} {s : State} {m : MethodId} {args : Array Value} {below : List Frame} {meth : Method} {c0 : Code} {H : Heap} {locs : List Loc} {cells slots : Nat} {Zp : State → Prop} {D : va_G} {acl : Nat → ClassId} {z : Nat} {M : zMth} {ph : Bool} {σ : zSt} {pc : Nat} {ls : Array Slot} {rest : List Value}
theorem z_get {idx ci k c j : Nat} (hx : zcx D acl z M p s m args meth c0) (hR : zRP ph D acl z σ H) (hf : zFR M.1.cls idx ci k) (hc : zkd c = 20 + ci) (h0 : 0 < c) (hj : j < zcn σ c) (hd : decode M.2.1 pc = .ok (.getfield idx, 3))
    (k' : W p l e R s m args below meth c0 H locs cells slots Zp (F0 m (pc + 3) ls (zfv σ (zty ci k) c j k :: rest))) : W p l e R s m args below meth c0 H locs cells slots Zp (F0 m pc ls (.ref (zad σ c j) :: rest)) := by
  obtain ⟨q, hq, hk, hl⟩ := hf
  obtain ⟨g1, g2, g3, g4⟩ := zCl_ok ci q hq
  obtain ⟨x1, x2, x3, x4, x5, x6, x7, x8⟩ := hx
  have hat := hR.2.2.1 c j (zk5 h0 (by omega)) hj
  rw [zen_obj hc] at hat
  exact va_get x1 x2 x5 g1 x4 x6 (ws := [(zad σ c j, .inr (ci, (List.range (zNf.getD ci 0)).map (fun k => zfv σ (zty ci k) c j k)))]) (fun k q h => by
    match k, h with
    | 0, h => cases h; exact hat) 0 rfl hq k hk (x5 _ hl) (fun x h => h) (v := zfv σ (zty ci k) c j k) (by
    rw [← g4, List.getElem?_map, List.getElem?_range hk]; rfl) hd k'
end zW
theorem zRo.upd {acl : Nat → ClassId} {z : Nat} {σ σ' : zSt} {H H' : Heap} {c j a : Nat} (h : zRo z σ H) (h5 : 5 < c) (he : σ'.2.2.2 = σ.2.2.2) (ho : ∀ c' j', ¬ (c' = c ∧ j' = j) → zen acl σ' c' j' = zen acl σ c' j') (ha : z ≤ a) (hq : ∀ q, q ≠ a → H'[q]? = H[q]?) : zRo z σ' H' := by
  refine h.of (fun c' g1 g2 => ⟨by unfold zcn; rw [he], by unfold zad; rw [he], by unfold zln zsc; rw [he], fun k => ?_⟩) (fun q hl => hq q (by omega))
  have := ho c' 0 (by omega)
  have key : (fun (e : va_E) => match e with | .inl (_, _, .inl f) => f k | _ => 0) (zen acl σ' c' 0) = (fun (e : va_E) => match e with | .inl (_, _, .inl f) => f k | _ => 0) (zen acl σ c' 0) := by rw [this]
  rcases (show c' = 1 ∨ c' = 2 ∨ c' = 3 ∨ c' = 4 ∨ c' = 5 by omega) with rfl | rfl | rfl | rfl | rfl <;> exact key
theorem zRP.upd {ph : Bool} {D : va_G} {acl : Nat → ClassId} {z : Nat} {σ σ' : zSt} {H H' : Heap} {c j : Nat} (h : zRP ph D acl z σ H) (h5 : 5 < c) (hj : j < zcn σ c) (he : σ'.2.2.2 = σ.2.2.2) (hr : ∀ c' j' k', 0 < c' → j' < zcn σ c' → zok σ (.inr (.inr (zgr σ' c' j' k'))))
    (ho : ∀ c' j', ¬ (c' = c ∧ j' = j) → zen acl σ' c' j' = zen acl σ c' j') (hn : va_at D vwCl (zad σ c j, zen acl σ' c j) H') (hz : H'.size = H.size) (hq : ∀ q, q ≠ zad σ c j → H'[q]? = H[q]?) (hK : zK σ → zK σ') : zRP ph D acl z σ' H' := by
  obtain ⟨r1, r2, r3, r4, r5, r6, r7⟩ := h
  have e1 : zcn σ' = zcn σ := by unfold zcn; rw [he]
  have e2 : zad σ' = zad σ := by unfold zad; rw [he]
  have e3 : ztp σ' = ztp σ := by unfold ztp; rw [he]
  refine ⟨by rw [hz, e3]; exact r1, ⟨by rw [e3]; exact r2.1, r2.2.upd h5 he ho (r5 c j h5 hj) hq⟩, fun c' j' g0 gj => ?_, ?_, ?_, fun c' j' k' g0 gj => ?_, fun hp => hK (r7 hp)⟩
  · rw [e1] at gj
    rw [e2]
    by_cases hcj : c' = c ∧ j' = j
    · obtain ⟨rfl, rfl⟩ := hcj; exact hn
    · rw [ho c' j' hcj]
      exact (r3 c' j' g0 gj).kept (hq _ (fun ea => hcj (r4 c' j' c j g0 h5 gj hj ea)))
  · rw [e1, e2]; exact r4
  · rw [e1, e2]; exact r5
  · rw [e1] at gj
    have := hr c' j' k' g0 gj
    rcases this with hh | hh
    · exact Or.inl hh
    · exact Or.inr (by rw [e1]; exact hh)
theorem zfv_i {σ : zSt} {t : FieldType} {c j k : Nat} (h : t = .int ∨ t = .boolean) : zfv σ t c j k = .int (zgi σ c j k) := by rcases h with rfl | rfl <;> rfl
theorem zrv_eq {σ σ' : zSt} (he : σ'.2.2.2 = σ.2.2.2) (r : Nat × Nat) : zrv σ' r = zrv σ r := by unfold zrv zad; rw [he]
/-- entries of another cell do not change by a store -/
theorem zen_ne {acl : Nat → ClassId} {σ σ' : zSt} (he : σ'.2.2.2 = σ.2.2.2) {c' j' : Nat} (h1 : ∀ k, zgi σ' c' j' k = zgi σ c' j' k) (h2 : ∀ k, zgl σ' c' j' k = zgl σ c' j' k) (h3 : ∀ k, zgr σ' c' j' k = zgr σ c' j' k) : zen acl σ' c' j' = zen acl σ c' j' := by
  have e4 : zln σ' c' = zln σ c' := by unfold zln zsc; rw [he]
  unfold zen
  rw [e4]
  simp only [h1, h2, h3, zrv_eq he]
  split
  · rfl
  · congr 2
    apply List.map_congr_left
    intro k _
    unfold zfv
    split <;> simp only [h1, h2, h3, zrv_eq he]
theorem zgi_si (σ : zSt) (c j k c' j' k' : Nat) (x : Int32) : zgi (zsi σ c j k x) c' j' k' = if c' = c ∧ j' = j ∧ k' = k then x else zgi σ c' j' k' := rfl
theorem zgl_sl (σ : zSt) (c j k c' j' k' : Nat) (x : Int64) : zgl (zsl σ c j k x) c' j' k' = if c' = c ∧ j' = j ∧ k' = k then x else zgl σ c' j' k' := rfl
theorem zgr_sr (σ : zSt) (c j k c' j' k' : Nat) (x : Nat × Nat) : zgr (zsr σ c j k x) c' j' k' = if c' = c ∧ j' = j ∧ k' = k then x else zgr σ c' j' k' := rfl
theorem zgl_si (σ : zSt) (c j k c' j' k' : Nat) (x : Int32) : zgl (zsi σ c j k x) c' j' k' = zgl σ c' j' k' := rfl
theorem zgr_si (σ : zSt) (c j k c' j' k' : Nat) (x : Int32) : zgr (zsi σ c j k x) c' j' k' = zgr σ c' j' k' := rfl
theorem zgi_sl (σ : zSt) (c j k c' j' k' : Nat) (x : Int64) : zgi (zsl σ c j k x) c' j' k' = zgi σ c' j' k' := rfl
theorem zgr_sl (σ : zSt) (c j k c' j' k' : Nat) (x : Int64) : zgr (zsl σ c j k x) c' j' k' = zgr σ c' j' k' := rfl
theorem zgi_sr (σ : zSt) (c j k c' j' k' : Nat) (x : Nat × Nat) : zgi (zsr σ c j k x) c' j' k' = zgi σ c' j' k' := rfl
theorem zgl_sr (σ : zSt) (c j k c' j' k' : Nat) (x : Nat × Nat) : zgl (zsr σ c j k x) c' j' k' = zgl σ c' j' k' := rfl
section zR2
variable {ph : Bool} {d kc ks : Nat} {M : zMth} {pc : Nat} {L : List (Option zV)} {S : List zV} {σ : zSt} {Q : Option zV → zSt → Prop} {idx ci k c j : Nat}
theorem r_getI (hf : zFR M.1.cls idx ci k) (hc : zkd c = 20 + ci) (h0 : 0 < c) (ht : zty ci k = .int ∨ zty ci k = .boolean) (hd : decode M.2.1 pc = .ok (.getfield idx, 3)) (kk : zE ph d kc ks M (pc + 3) L (.inl (zgi σ c j k) :: S) σ Q) : zE ph d kc ks M pc L (.inr (.inr (c, j)) :: S) σ Q := by
  intro D acl z p l e R s m args below meth c1 H locs cells slots σe ls Zp mc ms hx h1 h2 h3 h4 h5 h6 hR hZ hS hX hL hV hQ
  simp only [List.forall_mem_cons] at hV
  have hj : j < zcn σ c := hV.1.resolve_left (by simp only; omega)
  rw [List.map_cons, show zc σ (.inr (.inr (c, j))) = Value.ref (zad σ c j) by simp [zc, zrv, show c ≠ 0 by omega, va_rf]]
  refine z_get hx hR hf hc h0 hj hd ?_
  rw [zfv_i ht]
  exact kk D acl z p l e R s m args below meth c1 H locs cells slots σe ls Zp mc ms hx h1 h2 h3 h4 h5 h6 hR hZ hS hX hL (by simp only [List.forall_mem_cons]; exact ⟨trivial, hV.2⟩) hQ
theorem r_getL (hf : zFR M.1.cls idx ci k) (hc : zkd c = 20 + ci) (h0 : 0 < c) (ht : zty ci k = .long) (hd : decode M.2.1 pc = .ok (.getfield idx, 3)) (kk : zE ph d kc ks M (pc + 3) L (.inr (.inl (zgl σ c j k)) :: S) σ Q) : zE ph d kc ks M pc L (.inr (.inr (c, j)) :: S) σ Q := by
  intro D acl z p l e R s m args below meth c1 H locs cells slots σe ls Zp mc ms hx h1 h2 h3 h4 h5 h6 hR hZ hS hX hL hV hQ
  simp only [List.forall_mem_cons] at hV
  have hj : j < zcn σ c := hV.1.resolve_left (by simp only; omega)
  rw [List.map_cons, show zc σ (.inr (.inr (c, j))) = Value.ref (zad σ c j) by simp [zc, zrv, show c ≠ 0 by omega, va_rf]]
  refine z_get hx hR hf hc h0 hj hd ?_
  rw [ht]
  exact kk D acl z p l e R s m args below meth c1 H locs cells slots σe ls Zp mc ms hx h1 h2 h3 h4 h5 h6 hR hZ hS hX hL (by simp only [List.forall_mem_cons]; exact ⟨trivial, hV.2⟩) hQ
def zrt (t : FieldType) : Bool := match t with
  | .object _ => true
  | .array _ => true
  | _ => false
theorem zfv_r {t : FieldType} (h : zrt t = true) : zfv σ t c j k = zc σ (.inr (.inr (zgr σ c j k))) := by
  cases t <;> first | rfl | cases h
theorem r_getR (hf : zFR M.1.cls idx ci k) (hc : zkd c = 20 + ci) (h0 : 0 < c) (ht : zrt (zty ci k) = true) (hd : decode M.2.1 pc = .ok (.getfield idx, 3)) (kk : zE ph d kc ks M (pc + 3) L (.inr (.inr (zgr σ c j k)) :: S) σ Q) : zE ph d kc ks M pc L (.inr (.inr (c, j)) :: S) σ Q := by
  intro D acl z p l e R s m args below meth c1 H locs cells slots σe ls Zp mc ms hx h1 h2 h3 h4 h5 h6 hR hZ hS hX hL hV hQ
  simp only [List.forall_mem_cons] at hV
  have hj : j < zcn σ c := hV.1.resolve_left (by simp only; omega)
  rw [List.map_cons, show zc σ (.inr (.inr (c, j))) = Value.ref (zad σ c j) by simp [zc, zrv, show c ≠ 0 by omega, va_rf]]
  refine z_get hx hR hf hc h0 hj hd ?_
  rw [zfv_r ht]
  exact kk D acl z p l e R s m args below meth c1 H locs cells slots σe ls Zp mc ms hx h1 h2 h3 h4 h5 h6 hR hZ hS hX hL (by simp only [List.forall_mem_cons]; exact ⟨hR.2.2.2.2.2.1 c j k h0 hj, hV.2⟩) hQ
/-- a constant reference -/
theorem r_getC {c2 j2 : Nat} (hf : zFR M.1.cls idx ci k) (hc : zkd c = 20 + ci) (h0 : 0 < c) (ht : zrt (zty ci k) = true) (h9 : zct c j k = (c2, j2)) (hn : c2 ≠ 0) (hd : decode M.2.1 pc = .ok (.getfield idx, 3)) (kk : zE true d kc ks M (pc + 3) L (.inr (.inr (c2, j2)) :: S) σ Q) : zE true d kc ks M pc L (.inr (.inr (c, j)) :: S) σ Q := by
  intro D acl z p l e R s m args below meth c1 H locs cells slots σe ls Zp mc ms hx h1 h2 h3 h4 h5 h6 hR hZ hS hX hL hV hQ
  have hV0 := hV
  simp only [List.forall_mem_cons] at hV
  have hj : j < zcn σ c := hV.1.resolve_left (by simp only; omega)
  have e9 : zgr σ c j k = (c2, j2) := by rw [hR.2.2.2.2.2.2 rfl c j k h0 hj (by rw [h9]; exact hn) (fun h => by omega), h9]
  rw [← e9] at kk
  exact r_getR hf hc h0 ht hd kk D acl z p l e R s m args below meth c1 H locs cells slots σe ls Zp mc ms hx h1 h2 h3 h4 h5 h6 hR hZ hS hX hL hV0 hQ

theorem zok_ad (h0 : 0 < c) : zc σ (.inr (.inr (c, j))) = Value.ref (zad σ c j) := by simp [zc, zrv, show c ≠ 0 by omega, va_rf]
theorem zK.of {σ' : zSt} (hr : ∀ c j k, zgr σ' c j k = zgr σ c j k) (he : σ'.2.2.2 = σ.2.2.2) (h : zK σ) : zK σ' := by
  intro c j k h0 hj h1 h2
  rw [hr]
  exact h c j k h0 (by unfold zcn at hj ⊢; rw [he] at hj; exact hj) h1 h2
theorem zX.st {σ' : zSt} (he : σ'.2.2.2 = σ.2.2.2) : zX σ σ' := ⟨fun c j h => ⟨by unfold zcn at h ⊢; rw [he]; exact h, by unfold zad; rw [he]⟩, by unfold zsc; rw [he]⟩
/-- a store into a field that is not final: the new state's entry is the old one's with place k set -/
theorem z_put {σ' : zSt} {v : zV} {ty : FieldType} (hf : zFR M.1.cls idx ci k) (hfin : ∀ q, vwCl[ci]? = some q → (q.2.1 k).2.2.2 = false) (hc : zkd c = 20 + ci) (h0 : 0 < c) (hty : zty ci k = ty) (hnw : narrow ty (zc σ v) = zc σ v) (hfit : fits ty (zc σ v) = true) (he : σ'.2.2.2 = σ.2.2.2)
    (hv : zfv σ' ty c j k = zc σ v) (ho : ∀ k', k' ≠ k → zfv σ' (zty ci k') c j k' = zfv σ (zty ci k') c j k') (hx' : ∀ (acl : Nat → ClassId) c' j', ¬ (c' = c ∧ j' = j) → zen acl σ' c' j' = zen acl σ c' j') (hr : zok σ v → ∀ c' j' k', 0 < c' → j' < zcn σ c' → zok σ (.inr (.inr (zgr σ c' j' k'))) → zok σ (.inr (.inr (zgr σ' c' j' k')))) (hK : zK σ → zK σ')
    (hd : decode M.2.1 pc = .ok (.putfield idx, 3)) (kk : zE ph d kc ks M (pc + 3) L S σ' Q) (hc5 : 5 < c) : zE ph d kc ks M pc L (v :: .inr (.inr (c, j)) :: S) σ Q := by
  intro D acl z p l e R s m args below meth c1 H locs cells slots σe ls Zp mc ms hx h1 h2 h3 h4 h5 h6 hR hZ hS hX hL hV hQ
  simp only [List.forall_mem_cons] at hV
  have hj : j < zcn σ c := hV.2.1.resolve_left (by simp only; omega)
  rw [List.map_cons, List.map_cons, zok_ad h0]
  obtain ⟨q, hq, hk, hl⟩ := hf
  obtain ⟨g1, g2, g3, g4⟩ := zCl_ok ci q hq
  have hx0 := hx
  obtain ⟨x1, x2, x3, x4, x5, x6, x7, x8⟩ := hx
  have hat := hR.2.2.1 c j hc5 hj
  rw [zen_obj hc] at hat
  have hap := va_apart (own := M.1.cls) x5 g1 (zty ci) g2 g3 x6 hq
  obtain ⟨r, r1, cell, q1, q2, q3, q4⟩ := hat
  have hr' : r = q := Option.some.inj (r1.symm.trans hq)
  subst hr'
  obtain ⟨hS', hfc, kC, hkC, hkind⟩ := x6.1 ci _ hq
  obtain ⟨cf, kf, fi, f, hi, hsl⟩ := hS' k hk
  have hlay := x5 _ (g1 _ (u_in_lay hk))
  unfold u_lay at hlay
  rw [if_neg (by rw [hfin _ hq]; decide)] at hlay
  have hst := (u_facts hfc hkC (u_lays x5 g1 hk) hi).1
  have h6' := u_store hfc hkC hkind hlay hi (by rw [g2 k hk, hty]) hnw hfit
  refine W.putK x1 x2 (f := f) ⟨x4, x5 _ hl, ⟨_, _, _, hi⟩, hst⟩ (by rw [q2]; exact h6') q1 q3 (by rw [hsl]; exact k2_hasslot (q4 k hk)) rfl rfl hd fun H' e1 e2 e3 => ?_
  rw [hsl] at e1 ⊢
  have hX1 : zX σ σ' := zX.st he
  have hR' : zRP ph D acl z σ' H' := by
    refine hR.upd hc5 hj he (fun c' j' k' g0 gj => hr hV.1 c' j' k' g0 gj (hR.2.2.2.2.2.1 c' j' k' g0 gj)) (fun c' j' h => hx' acl c' j' h) ?_ e2 e3 hK
    rw [zen_obj hc]
    refine ⟨r, hq, cell.setSlot (D.2 ci k) (zc σ v), e1, q2, q3, fun k' hk' => ?_⟩
    rw [t_set q4 hap hk (zc σ v) k' hk']
    have hget : ∀ (σ : zSt) k', k' < r.2.2 → vp_V ((List.range (zNf.getD ci 0)).map (fun k => zfv σ (zty ci k) c j k)) k' = zfv σ (zty ci k') c j k' := by
      intro σ k' hk'
      unfold vp_V
      rw [List.getD_eq_getElem?_getD, List.getElem?_map, List.getElem?_range (by rw [← g4]; exact hk')]
      rfl
    rw [hget σ' k' hk']
    by_cases hkk : k' = k
    · subst hkk
      rw [hty, hv]
      simp [updV]
    · rw [ho k' hkk]
      have := hget σ k' hk'
      simp only [updV, if_neg hkk]
      rw [← this]
  exact kk D acl z p l e R s m args below meth c1 H' _ cells slots σe ls Zp mc ms hx0 h1 h2 h3 h4 h5 h6 hR' hZ (hS.put e2 e3 (hR.2.2.2.2.1 c j hc5 hj)) (hX.tr hX1) (hL.mono hX1) (fun v hv => (hV.2.2 v hv).mono hX1) hQ |> fun w => by rw [show S.map (zc σ') = S.map (zc σ) from List.map_congr_left (fun v hv => zc.mono hX1 (hV.2.2 v hv))] at w; exact w
end zR2
