/-! rules that make and that store references: objects, rows; the copying of rows of longs -/
def znew (σ : zSt) (c : Nat) : zSt := (fun a b e => if a = c ∧ b = zcn σ c then 0 else σ.1 a b e, fun a b e => if a = c ∧ b = zcn σ c then 0 else σ.2.1 a b e, fun a b e => if a = c ∧ b = zcn σ c then (0, 0) else σ.2.2.1 a b e, fun a => if a = c then zcn σ c + 1 else σ.2.2.2.1 a, fun a b => if a = c ∧ b = zcn σ c then ztp σ else σ.2.2.2.2.1 a b, (ztp σ + 1, zsc σ))
section zNw
variable {ph : Bool} {d kc ks : Nat} {M : zMth} {pc : Nat} {L : List (Option zV)} {S : List zV} {σ : zSt} {Q : Option zV → zSt → Prop} {idx ci k c j : Nat}
theorem zcn_new (a : Nat) : zcn (znew σ c) a = if a = c then zcn σ c + 1 else zcn σ a := rfl
theorem zgi_new (a b e : Nat) : zgi (znew σ c) a b e = if a = c ∧ b = zcn σ c then 0 else zgi σ a b e := rfl
theorem zgl_new (a b e : Nat) : zgl (znew σ c) a b e = if a = c ∧ b = zcn σ c then 0 else zgl σ a b e := rfl
theorem zgr_new (a b e : Nat) : zgr (znew σ c) a b e = if a = c ∧ b = zcn σ c then (0, 0) else zgr σ a b e := rfl
theorem zad_new (a b : Nat) : zad (znew σ c) a b = if a = c ∧ b = zcn σ c then ztp σ else zad σ a b := rfl
theorem znew_lt {a b : Nat} (h : b < zcn (znew σ c) a) : (a = c ∧ b = zcn σ c) ∨ (b < zcn σ a ∧ ¬ (a = c ∧ b = zcn σ c)) := by
  rw [zcn_new] at h
  split at h
  · next e => subst e; omega
  · next e => exact Or.inr ⟨h, fun q => e q.1⟩
theorem znew_X : zX σ (znew σ c) := by
  refine ⟨fun a b h => ?_, rfl⟩
  rw [zcn_new, zad_new]
  by_cases e : a = c
  · subst e
    rw [if_pos rfl, if_neg (by omega)]
    exact ⟨by omega, rfl⟩
  · rw [if_neg e, if_neg (fun q => e q.1)]
    exact ⟨h, rfl⟩
theorem zrv_X {σ' : zSt} (h : zX σ σ') {r : Nat × Nat} (hr : zok σ (.inr (.inr r))) : zrv σ' r = zrv σ r := by
  rcases hr with hr | hr
  · simp [zrv, hr]
  · simp [zrv, (h.1 _ _ hr).2]
/-- entries stand, where values stand -/
theorem zen_X {acl : Nat → ClassId} {σ' : zSt} (hX : zX σ σ') {a b : Nat} (h1 : ∀ e, zgi σ' a b e = zgi σ a b e) (h2 : ∀ e, zgl σ' a b e = zgl σ a b e) (h3 : ∀ e, zgr σ' a b e = zgr σ a b e) (hr : ∀ e, zok σ (.inr (.inr (zgr σ a b e)))) : zen acl σ' a b = zen acl σ a b := by
  have e4 : zln σ' a = zln σ a := by unfold zln; rw [hX.2]
  have e5 : ∀ e, zrv σ' (zgr σ a b e) = zrv σ (zgr σ a b e) := fun e => zrv_X hX (hr e)
  unfold zen
  rw [e4]
  simp only [h1, h2, h3, e5]
  split
  · rfl
  · congr 2
    apply List.map_congr_left
    intro k _
    unfold zfv
    split <;> simp only [h1, h2, h3, e5]
theorem zRP.mk {D : va_G} {acl : Nat → ClassId} {z : Nat} {H H' : Heap} (h : zRP ph D acl z σ H) (h5 : 5 < c) (hz : H'.size = H.size + 1) (ho : ∀ q, q < H.size → H'[q]? = H[q]?) (hn : va_at D vwCl (H.size, zen acl (znew σ c) c (zcn σ c)) H') (hK : ph = true → ∀ k, (zkd c < 20 → k < zLn.getD c 0) → (zct c (zcn σ c) k).1 = 0) : zRP ph D acl z (znew σ c) H' := by
  obtain ⟨r1, r2, r3, r4, r5, r6, r7⟩ := h
  refine ⟨by rw [hz, r1]; rfl, ⟨by show z ≤ ztp σ + 1; have := r2.1; omega, r2.2.of (fun c' g1 g2 => ⟨by rw [zcn_new, if_neg (by omega)], by rw [zad_new, if_neg (by omega)], rfl, fun k => by rw [zgi_new, if_neg (by omega)]⟩) (fun q hl => ho q (by have := r2.1; omega))⟩, fun a b g0 gj => ?_, fun a b a' b' g0 g0' gj gj' => ?_, fun a b g5 gj => ?_, fun a b e g0 gj => ?_, fun hp a b e g0 gj h1 h2 => ?_⟩
  · rcases znew_lt gj with ⟨rfl, rfl⟩ | ⟨hj, hne⟩
    · rw [zad_new, if_pos ⟨rfl, rfl⟩, ← r1]
      exact hn
    · rw [zad_new, if_neg hne, zen_X znew_X (fun e => by rw [zgi_new, if_neg hne]) (fun e => by rw [zgl_new, if_neg hne]) (fun e => by rw [zgr_new, if_neg hne]) (fun e => r6 a b e (by omega) hj)]
      exact (r3 a b g0 hj).kept (ho _ (r3 a b g0 hj).lt)
  · have hl : ∀ a b, 5 < a → b < zcn σ a → zad σ a b < ztp σ := fun a b g0 gj => by
      have := (r3 a b g0 gj).lt
      rw [r1] at this
      exact this
    rw [zad_new, zad_new]
    rcases znew_lt gj with ⟨rfl, rfl⟩ | ⟨hj, hne⟩
    · rw [if_pos ⟨rfl, rfl⟩]
      rcases znew_lt gj' with ⟨rfl, rfl⟩ | ⟨hj', hne'⟩
      · exact fun _ => ⟨rfl, rfl⟩
      · rw [if_neg hne']
        intro e
        have := hl a' b' g0' hj'
        omega
    · rw [if_neg hne]
      rcases znew_lt gj' with ⟨rfl, rfl⟩ | ⟨hj', hne'⟩
      · rw [if_pos ⟨rfl, rfl⟩]
        intro e
        have := hl a b g0 hj
        omega
      · rw [if_neg hne']
        exact r4 a b a' b' g0 g0' hj hj'
  · rw [zad_new]
    rcases znew_lt gj with ⟨rfl, rfl⟩ | ⟨hj, hne⟩
    · rw [if_pos ⟨rfl, rfl⟩]; exact r2.1
    · rw [if_neg hne]; exact r5 a b g5 hj
  · rw [zgr_new]
    rcases znew_lt gj with ⟨rfl, rfl⟩ | ⟨hj, hne⟩
    · rw [if_pos ⟨rfl, rfl⟩]; exact Or.inl rfl
    · rw [if_neg hne]; exact (r6 a b e g0 hj).mono znew_X
  · rw [zgr_new]
    rcases znew_lt gj with ⟨rfl, rfl⟩ | ⟨hj, hne⟩
    · exact absurd (hK hp e h2) h1
    · rw [if_neg hne]; exact r7 hp a b e g0 hj h1 h2
theorem va_S.grow {z : Nat} {H0 H H' : Heap} {locs : List Loc} (hS : va_S (zA z) H0 H locs) (hz : H'.size = H.size + 1) (ho : ∀ q, q < H.size → H'[q]? = H[q]?) : va_S (zA z) H0 H' locs :=
  ⟨Nat.le_trans hS.1 (by omega), fun x h1 h2 => (ho x (Nat.lt_of_lt_of_le h1 hS.1)).trans (hS.2.1 x h1 h2), hS.2.2⟩
theorem zdef {ci : Nat} {t : FieldType} (ht : t = .int ∨ t = .boolean ∨ t = .long ∨ zrt t = true) (k : Nat) : defaultValue t = zfv (znew σ c) t c (zcn σ c) k := by
  rcases ht with rfl | rfl | rfl | ht
  · show Value.int 0 = Value.int _; rw [zgi_new, if_pos ⟨rfl, rfl⟩]
  · show Value.int 0 = Value.int _; rw [zgi_new, if_pos ⟨rfl, rfl⟩]
  · show Value.long 0 = Value.long _; rw [zgl_new, if_pos ⟨rfl, rfl⟩]
  · cases t <;> first | cases ht; done | (show Value.null = va_rf (zrv _ (zgr _ _ _ _)); rw [zgr_new, if_pos ⟨rfl, rfl⟩]; rfl)
/-- what the tables say of a class that is made -/
def zMk (own : String) (idx ci : Nat) : Prop := ∃ q : vw_C, vwCl[ci]? = some q ∧ Cond.classLink own idx q.1 ∈ zT ∧ Cond.instantiable q.1 q.2.2 ∈ zT ∧ Cond.initialized q.1 ∈ zT ∧ ∀ k, k < q.2.2 → zty ci k = .int ∨ zty ci k = .boolean ∨ zty ci k = .long ∨ zrt (zty ci k) = true
theorem r_new (hm : zMk M.1.cls idx ci) (hc : zkd c = 20 + ci) (h5 : 5 < c) (hks : ∃ n, zNf.getD ci 0 = n ∧ ks = n + k) (hK : ph = true → ∀ j k, (zct c j k).1 = 0) (hd : decode M.2.1 pc = .ok (.new idx, 3)) (kk : zE ph d kc k M (pc + 3) L (.inr (.inr (c, zcn σ c)) :: S) (znew σ c) Q) : zE ph d (1 + kc) ks M pc L S σ Q := by
  intro D acl z p l e R s m args below meth c1 H locs cells slots σe ls Zp mc ms hx h1 h2 h3 h4 h5' h6 hR hZ hS hX hL hV hQ
  have hx0 := hx
  obtain ⟨n, hn, rfl⟩ := hks
  obtain ⟨x1, x2, x3, x4, x5, x6, x7, x8⟩ := hx
  obtain ⟨q, hq, w1, w2, w3, hty⟩ := hm
  obtain ⟨g1, g2, g3, g4⟩ := zCl_ok ci q hq
  have hKn := x6.1 ci _ hq
  rw [hn] at g4
  refine W.newcK x1 x2 x4 (x5 _ w1) (x5 _ w2) (x5 _ w3) rfl hd (by omega) (by omega) hKn.2.1 rfl fun H1 kC hkC e1 z1 o1 => ?_
  have hR' : zRP ph D acl z (znew σ c) H1 := by
    refine hR.mk h5 z1 o1 ?_ (fun hp k _ => hK hp _ k)
    rw [zen_obj hc]
    refine ⟨q, hq, (u_born (zty ci) x5 g1 hKn hkC e1 g2).to fun k hk => ?_⟩
    unfold vp_V
    rw [List.getD_eq_getElem?_getD, List.getElem?_map, List.getElem?_range (by rw [hn, ← g4]; exact hk)]
    exact zdef (ci := ci) (hty k hk) k
  have hX1 : zX σ (znew σ c) := znew_X
  have e9 : Value.ref H.size = zc (znew σ c) (.inr (.inr (c, zcn σ c))) := by
    rw [zok_ad (by omega), zad_new, if_pos ⟨rfl, rfl⟩, hR.1]
  have e8 : S.map (zc σ) = S.map (zc (znew σ c)) := List.map_congr_left (fun v hv => (zc.mono hX1 (hV v hv)).symm)
  have := kk D acl z p l e R s m args below meth c1 H1 locs (cells + 1) (slots + q.2.2) σe ls Zp mc ms hx0 h1 h2 h3 h4 (by omega) (by omega) hR' hZ (hS.grow z1 o1) (hX.tr hX1) (hL.mono hX1) (by
    simp only [List.forall_mem_cons]
    exact ⟨Or.inr (by show zcn σ c < zcn (znew σ c) c; rw [zcn_new, if_pos rfl]; omega), fun v hv => (hV v hv).mono hX1⟩) hQ
  rw [List.map_cons, ← e9, ← e8] at this
  exact this
theorem zRP.upd2 {D : va_G} {acl : Nat → ClassId} {z : Nat} {σ' : zSt} {H H' : Heap} (h : zRP ph D acl z σ H) (h5 : 5 < c) (hj : j < zcn σ c) (he : σ'.2.2.2 = σ.2.2.2) (hr : ∀ c' j' k', 0 < c' → j' < zcn σ c' → zok σ (.inr (.inr (zgr σ' c' j' k'))))
    (ho : ∀ c' j', ¬ (c' = c ∧ j' = j) → zen acl σ' c' j' = zen acl σ c' j') (hn : va_at D vwCl (zad σ c j, zen acl σ' c j) H') (hz : H'.size = H.size) (hq : ∀ q, q ≠ zad σ c j → H'[q]? = H[q]?) (hK : ph = true → zK σ → zK σ') : zRP ph D acl z σ' H' := by
  have h9 : zRP false D acl z σ H := ⟨h.1, h.2.1, h.2.2.1, h.2.2.2.1, h.2.2.2.2.1, h.2.2.2.2.2.1, fun q => by cases q⟩
  cases ph with
  | true => exact h.upd h5 hj he hr ho hn hz hq (hK rfl)
  | false =>
    obtain ⟨r1, r2, r3, r4, r5, r6, r7⟩ := h
    have e1 : zcn σ' = zcn σ := by unfold zcn; rw [he]
    have e2 : zad σ' = zad σ := by unfold zad; rw [he]
    have e3 : ztp σ' = ztp σ := by unfold ztp; rw [he]
    refine ⟨by rw [hz, e3]; exact r1, ⟨by rw [e3]; exact r2.1, r2.2.upd h5 he ho (r5 c j h5 hj) hq⟩, fun c' j' g0 gj => ?_, ?_, ?_, fun c' j' k' g0 gj => ?_, fun hp => by cases hp⟩
    · rw [e1] at gj
      rw [e2]
      by_cases hcj : c' = c ∧ j' = j
      · obtain ⟨rfl, rfl⟩ := hcj; exact hn
      · rw [ho c' j' hcj]
        exact (r3 c' j' g0 gj).kept (hq _ (fun ea => hcj (r4 c' j' c j g0 h5 gj hj ea)))
    · rw [e1, e2]; exact r4
    · rw [e1, e2]; exact r5
    · rw [e1] at gj
      have := hr c' j' k' g0 gj
      rcases this with hh | hh
      · exact Or.inl hh
      · exact Or.inr (by rw [e1]; exact hh)
/-- a store of an object into a row -/
theorem r_aast {i : Int32} {c2 j2 n : Nat} {q : vw_C} (hq : vwCl[ci]? = some q) (hty : ∀ acl : Nat → ClassId, (zts acl)[n]? = some (acl n, .object q.1)) (hc : zkd c = n) (hn : 3 ≤ n ∧ n < 20) (h5 : 5 < c) (hc2 : zkd c2 = 20 + ci) (h2 : 0 < c2) (hK : ph = true → (zct c j i.toNatClampNeg).1 = 0) (hin : vp_in i (zLn.getD c 0)) (hd : decode M.2.1 pc = .ok (.aastore, 1)) (kk : zE ph d kc ks M (pc + 1) L S (zsr σ c j i.toNatClampNeg (c2, j2)) Q) : zE ph d kc ks M pc L (.inr (.inr (c2, j2)) :: .inl i :: .inr (.inr (c, j)) :: S) σ Q := by
  intro D acl z p l e R s m args below meth c1 H locs cells slots σe ls Zp mc ms hx g1 g2 g3 g4 g5 g6 hR hZ hS hX hL hV hQ
  have hx0 := hx
  obtain ⟨x1, x2, x3, x4, x5, x6, x7, x8⟩ := hx
  simp only [List.forall_mem_cons] at hV
  have h0 : 0 < c := by omega
  have hj : j < zcn σ c := hV.2.2.1.resolve_left (by simp only; omega)
  have hj2 : j2 < zcn σ c2 := hV.1.resolve_left (by simp only; omega)
  have hat := hR.2.2.1 c j h5 hj
  rw [zen_aq hc hn.1 hn.2] at hat
  have hat2 := hR.2.2.1 c2 j2 (zk5 h2 (by omega)) hj2
  rw [zen_obj hc2] at hat2
  rw [List.map_cons, List.map_cons, List.map_cons, zok_ad h0, zok_ad h2]
  rw [← zln_ne (σ := σ) h5] at hin
  have hlt : i.toNatClampNeg < zln σ c := Nat.not_le.mp fun q => hin (Or.inr q)
  have h9 : ¬ i < 0 := fun q => hin (Or.inl q)
  obtain ⟨r', hr', cellV, f1, f2, f3, -⟩ := hat2
  have hcls := (x6.1 ci q hq).2
  obtain ⟨kA, comp, k1, k2, k3, -⟩ := (x6.2 n _ (hty acl)).2
  have hcomp : comp = D.1 ci := Option.some.inj (k3.symm.trans hcls.1)
  subst hcomp
  obtain ⟨kC, hkC, -⟩ := hcls.2
  refine W.aast x1 x2 hat (fun q h => by cases h) (fun h => by cases h) k1 k2 rfl hkC ⟨h9, by show _ < (arrV _ _ _).slots.size; rw [arrV_size]; exact hlt⟩ f1 (fun q h => by rw [f3] at h; cases h) (by rw [f2]; exact hkC) (by rw [f2]; exact va_assign hcls) rfl rfl hd fun H1 e1 e2 e3 => ?_
  have hX1 : zX σ (zsr σ c j i.toNatClampNeg (c2, j2)) := zX.st rfl
  have hR' : zRP ph D acl z (zsr σ c j i.toNatClampNeg (c2, j2)) H1 := by
    refine hR.upd2 h5 hj rfl (fun c' j' k' g0 gj => ?_) (fun c' j' h => zen_sr_ne acl h) ?_ e2 e3 (fun hp h => ?_)
    · rw [zgr_sr]
      split
      · exact Or.inr hj2
      · exact hR.2.2.2.2.2.1 c' j' k' g0 gj
    · rw [zen_aq hc hn.1 hn.2]
      show H1[zad σ c j]? = some (vp_cell _ _)
      rw [e1, vp_cell_q, vp_cell_q, arrV_store]
      congr 2
      funext x
      by_cases hx : x = i.toNatClampNeg
      · subst hx
        simp only [updV, zgr_sr, and_self, if_true]
        show _ = va_rf (zrv σ (c2, j2))
        simp [zrv, show c2 ≠ 0 by omega, va_rf]
      · simp [updV, zgr_sr, hx]
        rfl
    · intro a b e g0 gj q1 q2
      rw [zgr_sr]
      split
      · next w => obtain ⟨rfl, rfl, rfl⟩ := w; exact absurd (hK hp) q1
      · exact h a b e g0 gj q1 q2
  exact kk D acl z p l e R s m args below meth c1 H1 _ cells slots σe ls Zp mc ms hx0 g1 g2 g3 g4 g5 g6 hR' hZ (hS.put e2 e3 (hR.2.2.2.2.1 c j h5 hj)) (hX.tr hX1) (hL.mono hX1) (fun v hv => (hV.2.2.2 v hv).mono hX1) hQ |> fun w => by rw [show S.map (zc (zsr σ c j i.toNatClampNeg (c2, j2))) = S.map (zc σ) from List.map_congr_left (fun v hv => zc.mono hX1 (hV.2.2.2 v hv))] at w; exact w
/-- a store into a field in a constructor: fields that are final as well -/
theorem z_putC {σ' : zSt} {v : zV} {ty : FieldType} (hf : zFR M.1.cls idx ci k) (hfin : ∀ q, vwCl[ci]? = some q → (q.2.1 k).1 = M.1.cls) (hin : M.1.name = "<init>") (hc : zkd c = 20 + ci) (h0 : 0 < c) (hty : zty ci k = ty) (hnw : narrow ty (zc σ v) = zc σ v) (hfit : fits ty (zc σ v) = true) (he : σ'.2.2.2 = σ.2.2.2)
    (hv : zfv σ' ty c j k = zc σ v) (ho : ∀ k', k' ≠ k → zfv σ' (zty ci k') c j k' = zfv σ (zty ci k') c j k') (hx' : ∀ (acl : Nat → ClassId) c' j', ¬ (c' = c ∧ j' = j) → zen acl σ' c' j' = zen acl σ c' j') (hr : zok σ v → ∀ c' j' k', 0 < c' → j' < zcn σ c' → zok σ (.inr (.inr (zgr σ c' j' k'))) → zok σ (.inr (.inr (zgr σ' c' j' k')))) (hK : ph = true → zK σ → zK σ')
    (hd : decode M.2.1 pc = .ok (.putfield idx, 3)) (kk : zE ph d kc ks M (pc + 3) L S σ' Q) (hc5 : 5 < c) : zE ph d kc ks M pc L (v :: .inr (.inr (c, j)) :: S) σ Q := by
  intro D acl z p l e R s m args below meth c1 H locs cells slots σe ls Zp mc ms hx h1 h2 h3 h4 h5 h6 hR hZ hS hX hL hV hQ
  simp only [List.forall_mem_cons] at hV
  have hj : j < zcn σ c := hV.2.1.resolve_left (by simp only; omega)
  rw [List.map_cons, List.map_cons, zok_ad h0]
  obtain ⟨q, hq, hk, hl⟩ := hf
  obtain ⟨g1, g2, g3, g4⟩ := zCl_ok ci q hq
  have hx0 := hx
  obtain ⟨x1, x2, x3, x4, x5, x6, x7, x8, x9⟩ := hx
  have hat := hR.2.2.1 c j hc5 hj
  rw [zen_obj hc] at hat
  have hap := va_apart (own := M.1.cls) x5 g1 (zty ci) g2 g3 x6 hq
  obtain ⟨r, r1, cell, q1, q2, q3, q4⟩ := hat
  have hr' : r = q := Option.some.inj (r1.symm.trans hq)
  subst hr'
  obtain ⟨hS', hfc, kC, hkC, hkind⟩ := x6.1 ci _ hq
  obtain ⟨cf, kf, fi, f, hi, hsl⟩ := hS' k hk
  have hlay := x5 _ (g1 _ (u_in_lay hk))
  unfold u_lay at hlay
  have hst := (u_facts hfc hkC (u_lays x5 g1 hk) hi).1
  have fin : ∀ H', H'[zad σ c j]? = some (cell.setSlot f.slot (zc σ v)) → H'.size = H.size → (∀ q, q ≠ zad σ c j → H'[q]? = H[q]?) → W p l e R s m args below meth c1 H' (locs ++ [⟨zad σ c j, f.slot⟩]) cells slots Zp (F0 m (pc + 3) ls (S.map (zc σ))) := fun H' e1 e2 e3 => by
    rw [hsl] at e1 ⊢
    have hX1 : zX σ σ' := zX.st he
    have hR' : zRP ph D acl z σ' H' := by
      refine hR.upd2 hc5 hj he (fun c' j' k' g0 gj => hr hV.1 c' j' k' g0 gj (hR.2.2.2.2.2.1 c' j' k' g0 gj)) (fun c' j' h => hx' acl c' j' h) ?_ e2 e3 hK
      rw [zen_obj hc]
      refine ⟨r, hq, cell.setSlot (D.2 ci k) (zc σ v), e1, q2, q3, fun k' hk' => ?_⟩
      rw [t_set q4 hap hk (zc σ v) k' hk']
      have hget : ∀ (σ : zSt) k', k' < r.2.2 → vp_V ((List.range (zNf.getD ci 0)).map (fun k => zfv σ (zty ci k) c j k)) k' = zfv σ (zty ci k') c j k' := by
        intro σ k' hk'
        unfold vp_V
        rw [List.getD_eq_getElem?_getD, List.getElem?_map, List.getElem?_range (by rw [← g4]; exact hk')]
        rfl
      rw [hget σ' k' hk']
      by_cases hkk : k' = k
      · subst hkk
        rw [hty, hv]
        simp [updV]
      · rw [ho k' hkk]
        have := hget σ k' hk'
        simp only [updV, if_neg hkk]
        rw [← this]
    exact kk D acl z p l e R s m args below meth c1 H' _ cells slots σe ls Zp mc ms hx0 h1 h2 h3 h4 h5 h6 hR' hZ (hS.put e2 e3 (hR.2.2.2.2.1 c j hc5 hj)) (hX.tr hX1) (hL.mono hX1) (fun v hv => (hV.2.2 v hv).mono hX1) hQ |> fun w => by rw [show S.map (zc σ') = S.map (zc σ) from List.map_congr_left (fun v hv => zc.mono hX1 (hV.2.2 v hv))] at w; exact w
  by_cases hff : (r.2.1 k).2.2.2 = true
  · rw [if_pos hff] at hlay
    have hcf : m.cls = cf := by
      obtain ⟨_, _, c', _, _, _, -, -, hf', -, -, -, hown2, -⟩ := Cond.laysFinal_spec hlay
      have e1 : c' = cf := by have := hi.symm.trans hf'; simp at this; exact this.1.symm
      rw [hfin _ hq] at hown2
      rw [← e1]; exact Option.some.inj (x4.symm.trans hown2)
    have h6' := u_fits hfc hkC hkind (Or.inr hlay) hi (by rw [g2 k hk, hty]) hnw hfit
    exact W.putFinK x1 x2 x4 (x5 _ hl) hi hst hcf (x8 hin) (by rw [q2]; exact h6') q1 q3 (by rw [hsl]; exact k2_hasslot (q4 k hk)) rfl rfl hd fin
  · rw [if_neg hff] at hlay
    have h6' := u_store hfc hkC hkind hlay hi (by rw [g2 k hk, hty]) hnw hfit
    exact W.putK x1 x2 (f := f) ⟨x4, x5 _ hl, ⟨_, _, _, hi⟩, hst⟩ (by rw [q2]; exact h6') q1 q3 (by rw [hsl]; exact k2_hasslot (q4 k hk)) rfl rfl hd fin
def zown (ci k : Nat) (own : String) : Prop := ∀ q, vwCl[ci]? = some q → (q.2.1 k).1 = own
theorem r_initI {x : Int32} (hf : zFR M.1.cls idx ci k) (hfin : zown ci k M.1.cls) (hin : M.1.name = "<init>") (hc : zkd c = 20 + ci) (h5 : 5 < c) (ht : zty ci k = .int) (hd : decode M.2.1 pc = .ok (.putfield idx, 3)) (kk : zE ph d kc ks M (pc + 3) L S (zsi σ c j k x) Q) : zE ph d kc ks M pc L (.inl x :: .inr (.inr (c, j)) :: S) σ Q :=
  z_putC (v := .inl x) (σ' := zsi σ c j k x) hf hfin hin hc (by omega) ht rfl rfl rfl (by show Value.int _ = _; rw [zgi_si, if_pos ⟨rfl, rfl, rfl⟩]; rfl) (fun k' h => zfv_si (fun e => h e.2.2)) (fun acl c' j' h => zen_si_ne acl h) (fun _ _ _ _ _ _ h => h) (fun _ h => zK.of (fun _ _ _ => rfl) rfl h) hd kk h5
theorem r_initR {c2 j2 : Nat} {ty : FieldType} (hf : zFR M.1.cls idx ci k) (hfin : zown ci k M.1.cls) (hin : M.1.name = "<init>") (hc : zkd c = 20 + ci) (h5 : 5 < c) (ht : zty ci k = ty) (hrt : zrt ty = true) (hK : ph = true → (zct c j k).1 = 0) (hd : decode M.2.1 pc = .ok (.putfield idx, 3)) (kk : zE ph d kc ks M (pc + 3) L S (zsr σ c j k (c2, j2)) Q) : zE ph d kc ks M pc L (.inr (.inr (c2, j2)) :: .inr (.inr (c, j)) :: S) σ Q := by
  have hnw : ∀ v : Value, (v = .null ∨ ∃ a, v = .ref a) → narrow ty v = v ∧ fits ty v = true := by
    intro v hv
    rcases hv with rfl | ⟨a, rfl⟩ <;> (cases ty <;> first | (cases hrt; done) | exact ⟨rfl, rfl⟩)
  have hz := hnw (zc σ (.inr (.inr (c2, j2)))) (by unfold zc; exact va_rf_or _)
  refine z_putC (v := .inr (.inr (c2, j2))) (σ' := zsr σ c j k (c2, j2)) hf hfin hin hc (by omega) ht hz.1 hz.2 rfl ?_ (fun k' h => zfv_sr (fun e => h e.2.2)) (fun acl c' j' h => zen_sr_ne acl h) (fun hv a b e g0 gj h => ?_) (fun hp h a b e g0 gj q1 q2 => ?_) hd kk h5
  · rw [zfv_r hrt, zgr_sr, if_pos ⟨rfl, rfl, rfl⟩]
    rfl
  · rw [zgr_sr]
    split
    · exact hv
    · exact h
  · rw [zgr_sr]
    split
    · next w => obtain ⟨rfl, rfl, rfl⟩ := w; exact absurd (hK hp) q1
    · exact h a b e g0 gj q1 q2
end zNw
