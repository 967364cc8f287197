/-! calls, and a method's contract out of the walk of its body -/
def zPc (ph : Bool) (D : va_G) (acl : Nat → ClassId) (z : Nat) (σ : zSt) (As : List zV) : Array Value → State → Prop := fun av U => av = (As.map (zc σ)).toArray ∧ (∀ v ∈ As, zok σ v) ∧ zRP ph D acl z σ U.heap ∧ va_K D vwCl (zts acl) U ∧ zSZ z σ U ∧ zN U
def zQc (ph : Bool) (D : va_G) (acl : Nat → ClassId) (z : Nat) (σ : zSt) (Q : Option zV → zSt → Prop) : Array Value → State → Outcome → State → Prop := fun _ st o t => (∃ (r : Option zV) (σ' : zSt), o = .returned (r.map (zc σ')) ∧ Q r σ' ∧ zX σ σ' ∧ (∀ v ∈ r, zok σ' v) ∧ zRP ph D acl z σ' t.heap) ∧ va_F (zA z) st t
/-- a method's contract: called so, at this state, with d calls below it and room for kc cells of ks slots, it comes back with Q -/
def zC (ph : Bool) (d kc ks : Nat) (M : zMth) (As : List zV) (σ : zSt) (Q : Option zV → zSt → Prop) : Prop :=
  ∀ (D : va_G) (acl : Nat → ClassId) (z : Nat) (l : Launch), Met l M.1 (Cond.code M.1 M.2.1 M.2.2.1 M.2.2.2 :: zT) { frames := d, cells := kc, slots := ks, locals := 60 * d + 12 } (zPc ph D acl z σ As) (zQc ph D acl z σ Q) kc ks (zA z)
def zfl : List zV → List (Option zV)
  | [] => []
  | v :: vs => match v with
    | .inr (.inl y) => some (.inr (.inl y)) :: none :: zfl vs
    | .inl x => some (.inl x) :: zfl vs
    | .inr (.inr r) => some (.inr (.inr r)) :: zfl vs
def zL0 (As : List zV) (n : Nat) : List (Option zV) := zfl As ++ List.replicate (n - (zfl As).length) none
theorem zfl_mem {σ : zSt} (As : List zV) : ∀ (o i : Nat) (v : zV), (zfl As)[i]? = some (some v) → (o + i, zc σ v) ∈ lv_args o (As.map (zc σ)) ∧ v ∈ As := by
  induction As with
  | nil => intro o i v h; simp [zfl] at h
  | cons a t ih =>
    intro o i v h
    have key : ∀ k, zcat a = 1 → (zfl t)[k]? = some (some v) → i = k + 1 → (o + i, zc σ v) ∈ lv_args o ((a :: t).map (zc σ)) ∧ v ∈ a :: t := by
      intro k hc hk e
      have h1 := ih (o + 1) k v hk
      refine ⟨?_, List.mem_cons_of_mem _ h1.2⟩
      simp only [List.map_cons, lv_args, zc_cat, hc]
      rw [if_neg (by decide), e]
      refine List.mem_cons_of_mem _ ?_
      have := h1.1
      rwa [show o + 1 + k = o + (k + 1) by omega] at this
    rcases a with x | y | r
    · match i, h with
      | 0, h => simp [zfl] at h; subst h; exact ⟨by simp [lv_args], List.mem_cons_self⟩
      | k + 1, h => exact key k rfl (by simpa [zfl] using h) rfl
    · match i, h with
      | 0, h => simp [zfl] at h; subst h; exact ⟨by simp [lv_args], List.mem_cons_self⟩
      | 1, h => simp [zfl] at h
      | k + 2, h =>
        have hk : (zfl t)[k]? = some (some v) := by simpa [zfl] using h
        have h1 := ih (o + 2) k v hk
        refine ⟨?_, List.mem_cons_of_mem _ h1.2⟩
        simp only [List.map_cons, lv_args]
        rw [if_pos (by rfl)]
        refine List.mem_cons_of_mem _ ?_
        have := h1.1
        rwa [show o + 2 + k = o + (k + 2) by omega] at this
    · match i, h with
      | 0, h => simp [zfl] at h; subst h; exact ⟨by simp [lv_args], List.mem_cons_self⟩
      | k + 1, h => exact key k rfl (by simpa [zfl] using h) rfl
theorem zfl_len {σ : zSt} (As : List zV) : (lg_sl (As.map (zc σ))).length = (zfl As).length := by
  induction As with
  | nil => rfl
  | cons a t ih =>
    have : lg_sl ((a :: t).map (zc σ)) = (if (zc σ a).category = 2 then [Slot.val (zc σ a), .second] else [.val (zc σ a)]) ++ lg_sl (t.map (zc σ)) := rfl
    rw [this, List.length_append, ih, zc_cat]
    rcases a with x | y | r
    · simp [zcat, zfl]; omega
    · simp [zcat, zfl]; omega
    · simp [zcat, zfl]; omega
theorem zL0_ok {σ : zSt} {As : List zV} {n : Nat} (hn : (zfl As).length ≤ n) (hv : ∀ v ∈ As, zok σ v) : zLR σ (zL0 As n) ((lg_sl (As.map (zc σ)) ++ List.replicate (n - (lg_sl (As.map (zc σ))).length) Slot.unset).toArray) n := by
  have h := lv_entry (As.map (zc σ)) (n := n) (by rw [zfl_len]; exact hn)
  refine ⟨h.1, h.2.1, fun i v hi => ?_⟩
  unfold zL0 at hi
  by_cases hl : i < (zfl As).length
  · rw [List.getElem?_append_left hl] at hi
    obtain ⟨g1, g2⟩ := zfl_mem (σ := σ) As 0 i v hi
    rw [Nat.zero_add] at g1
    exact ⟨h.2.2 _ g1, hv v g2⟩
  · rw [List.getElem?_append_right (by omega)] at hi
    rw [List.getElem?_replicate] at hi
    split at hi
    · cases hi
    · cases hi
theorem zSZ.moved {z : Nat} {σe σ : zSt} {s U : State} {H : Heap} {locs : List Loc} (h : zSZ z σe s) (hX : zX σe σ) (hS : va_S (zA z) s.heap H locs) (hvm : s.vm.Alike U.vm) (hU : U.heap = H) : zSZ z σ U := by
  obtain ⟨⟨a1, a2, a3, a4⟩, h5, h7⟩ := h
  have e : ∀ c, c < 6 → zad σ c 0 = zad σe c 0 := fun c hc => (hX.1 c 0 (h5 c hc)).2
  rw [← e 2 (by omega)] at a1
  rw [← e 3 (by omega)] at a2
  rw [← e 4 (by omega)] at a3
  rw [← e 5 (by omega)] at a4
  rw [zSZ, hU]
  exact ⟨⟨(a1.kept hS.2.1).moved hvm, (a2.kept hS.2.1).moved hvm, (a3.kept hS.2.1).moved hvm, (a4.kept hS.2.1).moved hvm⟩, fun c hc => (hX.1 c 0 (h5 c hc)).1, fun c g1 g2 => by
    obtain ⟨cell, b1, b2, b3⟩ := h7 c g1 g2
    refine ⟨cell, ?_, State.isArrayOf_alike hvm b2, by rw [e c g2]; exact b3⟩
    rw [e c g2, hS.2.1 _ (Array.getElem?_eq_some_iff.mp b1).1 (Nat.not_le.mpr b3)]
    exact b1⟩
theorem zPc_blind {ph : Bool} {D : va_G} {acl : Nat → ClassId} {z : Nat} {σ : zSt} {As : List zV} : FrameBlind (zPc ph D acl z σ As) := by
  intro a U g mk h
  obtain ⟨h1, h2, h3, h4, ⟨⟨b1, b2, b3, b4⟩, h5, h7⟩, h6⟩ := h
  exact ⟨h1, h2, h3, va_K.moved (u := U) (U := U.calling g mk a) (Vm.Alike.refl U.vm) h4, ⟨⟨va_Z.moved (u := U) (U := U.calling g mk a) (Vm.Alike.refl U.vm) b1, va_Z.moved (u := U) (U := U.calling g mk a) (Vm.Alike.refl U.vm) b2, va_Z.moved (u := U) (U := U.calling g mk a) (Vm.Alike.refl U.vm) b3, va_Z.moved (u := U) (U := U.calling g mk a) (Vm.Alike.refl U.vm) b4⟩, h5, fun c g1 g2 => by
    obtain ⟨cell, q1, q2, q3⟩ := h7 c g1 g2
    exact ⟨cell, q1, State.isArrayOf_alike (s := U) (T := U.calling g mk a) (Vm.Alike.refl U.vm) q2, q3⟩⟩, h6.calling⟩
theorem zC_intro {ph : Bool} {d kc ks : Nat} {M : zMth} {As : List zV} {σ : zSt} {Q : Option zV → zSt → Prop} (hy : plainName M.1.cls = true) (hn : (zfl As).length ≤ M.2.2.1) (k : zE ph d kc ks M 0 (zL0 As M.2.2.1) [] σ Q) : zC ph d kc ks M As σ Q := by
  intro D acl z l
  obtain ⟨y, cc, nL, ret⟩ := M
  refine Met.ofW (cc := cc) (maxL := nL) (ret := ret) hy rfl ?_
  intro p e s m args below meth c s₁ B hml hv
  obtain ⟨rfl, hok, hR, hK, hZ, hN⟩ := hv
  have hts0 := atoms_spec (ws := Cond.code y cc nL ret :: zT) B.pre
  have hts : ∀ w ∈ zT, w.before (As.map (zc σ)).toArray s = true := fun w h => hts0 w (List.mem_cons_of_mem _ h)
  have hlocks := B.notSynchronized
  have hx : zcx D acl z (y, cc, nL, ret) p s m (As.map (zc σ)).toArray meth c := ⟨B.exec, B.bytes, hml, findClass_of_methodNamed B.named, hts, hK, by rw [hR.1]; exact hR.2.1.1, fun h => (name_of_methodNamed B.named B.method).1.trans h, hN⟩
  have hr := B.returns
  rw [lg_entry_eq]
  have hL := zL0_ok (σ := σ) hn hok
  refine k D acl z p l e _ s m _ below meth c s.heap [] 0 0 σ _ _ kc ks hx (Nat.le_refl _) (Nat.le_refl _) (Nat.le_refl _) (Nat.le_refl _) (by omega) (by omega) hR hZ va_S.rf zX.rf hL (fun v h => by cases h) ?_
  intro r σ' H' locs' pc' ls' hq hR' hS' hX' hv hro
  have hQ : ∀ t : State, t.heap = H' → s.WarmedH t.vm → zQc ph D acl z σ Q (As.map (zc σ)).toArray s (.returned (r.map (zc σ'))) t := fun t ht _ => ⟨⟨r, σ', rfl, hq, hX', hv, by rw [ht]; exact hR'⟩, hS'.F ht⟩
  rcases r with _ | x | y' | q
  · exact W.vret B.exec B.bytes (hr.trans hro.2) hQ hS'.2.2 hro.1 hlocks
  · obtain ⟨h1, ty, h2, h3⟩ := hro
    exact W.zret B.exec B.bytes (hr.trans h2) h3 hQ hS'.2.2 h1 hlocks
  · exact W.lret B.exec B.bytes (hr.trans hro.2) hQ hS'.2.2 hro.1 hlocks
  · obtain ⟨h1, rt, h2, h3⟩ := hro
    exact W.aret B.exec B.bytes (hr.trans h2) h3 (by simp only [zc, va_rf]; split; exact Or.inl rfl; exact Or.inr ⟨_, rfl⟩) hQ hS'.2.2 h1 hlocks
/-- what the tables say of a method that can be called -/
def zMok (M : zMth) (n : Nat) : Prop := Cond.code M.1 M.2.1 M.2.2.1 M.2.2.2 ∈ zT ∧ Cond.initialized M.1.cls ∈ zT ∧ (M.1.cls ≠ "java/lang/invoke/MethodHandle" ∧ M.1.cls ≠ "java/lang/invoke/VarHandle" ∧ (parseMethodDescriptor M.1.desc).map (fun d => d.parameters.length) = some n) ∧ M.2.2.1 ≤ 41
def zMV (own : String) (idx : Nat) (M : zMth) (n : Nat) : Prop := zMok M n ∧ Cond.methodLink own idx M.1 ∈ zT ∧ Cond.instanceMethod M.1 ∈ zT ∧ Cond.selects M.1.cls M.1 M.1 ∈ zT
def zMS (own : String) (idx : Nat) (M : zMth) (n : Nat) : Prop := zMok M n ∧ Cond.methodLink own idx M.1 ∈ zT ∧ Cond.static M.1 ∈ zT
def zMI (own : String) (idx : Nat) (M : zMth) (n : Nat) : Prop := zMok M n ∧ Cond.methodLink own idx M.1 ∈ zT ∧ Cond.instanceMethod M.1 ∈ zT ∧ M.1.name = "<init>" ∧ M.2.2.2 = none
def zMSN (own : String) (idx : Nat) (M : zMth) (n : Nat) : Prop := zMok M n ∧ Cond.methodLinkNest own idx M.1 "HeardPlaces" ∈ lw_tbl ∧ Cond.static M.1 ∈ zT
def zMIN (own : String) (idx : Nat) (M : zMth) (n : Nat) : Prop := zMok M n ∧ Cond.methodLinkNest own idx M.1 "HeardPlaces" ∈ lw_tbl ∧ Cond.instanceMethod M.1 ∈ zT ∧ M.1.name = "<init>" ∧ M.2.2.2 = none
theorem zgoodin {M : zMth} (h : Cond.code M.1 M.2.1 M.2.2.1 M.2.2.2 ∈ zT) : GoodIn zT (Cond.code M.1 M.2.1 M.2.2.1 M.2.2.2 :: zT) := fun w hw => by
  rcases List.mem_cons.mp hw with rfl | hw
  · exact zT_good _ h
  · exact zT_good _ hw
section zR4
variable {ph : Bool} {d kc ks kc1 ks1 kc2 ks2 : Nat} {M M' : zMth} {pc idx n : Nat} {L : List (Option zV)} {S S0 As : List zV} {σ : zSt} {Q Q1 : Option zV → zSt → Prop}
theorem z_call {p : Program} {l : Launch} {e : Env} {R : Room} {s : State} {m : MethodId} {args : Array Value} {below : List Frame} {meth : Method} {c : Code} {H : Heap} {locs : List Loc} {cells slots : Nat} {Zp : State → Prop} {D : va_G} {acl : Nat → ClassId} {z : Nat} {σe : zSt} {ls : Array Slot} {mc ms : Nat} {st0 : List Value} {av : Array Value}
    (hr : va_Run p l e R s m args below meth c H locs cells slots kc1 ks1 (F0 m pc ls st0) (S.map (zc σ)) (zQc ph D acl z σ Q1 av) (zA z))
    (hx : zcx D acl z M p s m args meth c) (h1 : d ≤ R.frames) (h2 : 60 * d + 12 ≤ R.locals) (h3 : mc ≤ R.cells) (h4 : ms ≤ R.slots) (h5 : cells + (kc1 + kc2) ≤ mc) (h6 : slots + (ks1 + ks2) ≤ ms) (hR : zRP ph D acl z σ H) (hZ : zSZ z σe s) (hS : va_S (zA z) s.heap H locs) (hX : zX σe σ) (hL : zLR σ L ls M.2.2.1) (hV : ∀ v ∈ S, zok σ v)
    (hQ : ∀ (r : Option zV) (σ' : zSt) (H' : Heap) (locs' : List Loc) (pc' : Nat) (ls' : Array Slot), Q r σ' → zRP ph D acl z σ' H' → va_S (zA z) s.heap H' locs' → zX σe σ' → (∀ v ∈ r, zok σ' v) → zrok M pc' r → W p l e R s m args below meth c H' locs' mc ms Zp (F0 m pc' ls' (r.map (zc σ')).toList))
    (kk : ∀ r σ', Q1 r σ' → zX σ σ' → zE ph d kc2 ks2 M (pc + 3) L (r.toList ++ S) σ' Q) : W p l e R s m args below meth c H locs cells slots Zp (F0 m pc ls st0) := by
  intro T hT X
  obtain ⟨v, st₀, t, T', Lx, h0, X', hLx, e1, e2, ⟨⟨r, σ', hv, hq, hx1, hok, hrp⟩, hF⟩, go⟩ := hr T hT X
  cases hv
  have hz := x7 hx
  have hS' : va_S (zA z) s.heap T'.heap (locs ++ Lx) := by
    refine ⟨Nat.le_trans hS.1 (by rw [e1, ← h0]; exact hF.1), fun q g1 g2 => ?_, fun q hq => ?_⟩
    · rw [e1, hF.2 q (by rw [h0]; exact Nat.lt_of_lt_of_le g1 hS.1) g2, h0]
      exact hS.2.1 q g1 g2
    · rcases List.mem_append.mp hq with h | h
      · exact hS.2.2 q h
      · exact hLx q h
  have w := kk r σ' hq hx1 D acl z p l e R s m args below meth c T'.heap (locs ++ Lx) (cells + kc1) (slots + ks1) σe ls Zp mc ms hx h1 h2 h3 h4 (by omega) (by omega) (by rw [e1]; exact hrp) hZ hS' (hX.tr hx1) (hL.mono hx1) (fun v hv => by
    rcases List.mem_append.mp hv with h | h
    · exact hok v (by simpa using h)
    · exact (hV v h).mono hx1) hQ
  rw [show (r.toList ++ S).map (zc σ') = (r.map (zc σ')).toList ++ S.map (zc σ) by
    rw [List.map_append]
    congr 1
    · cases r <;> rfl
    · exact List.map_congr_left (fun v hv => zc.mono hx1 (hV v hv))] at w
  obtain ⟨t2, a1, b1⟩ := w T' rfl X'
  exact ⟨t2, go t2 a1, b1⟩
where x7 {p : Program} {s : State} {m : MethodId} {args : Array Value} {meth : Method} {c : Code} {D : va_G} {acl : Nat → ClassId} {z : Nat} (hx : zcx D acl z M p s m args meth c) : z ≤ s.heap.size := hx.2.2.2.2.2.2.1
theorem zcatsum (σ : zSt) (S : List zV) : ((S.map (zc σ)).map fun v => v.category).sum = (S.map zcat).sum := by
  rw [List.map_map]
  congr 1
  exact List.map_congr_left (fun v _ => zc_cat σ v)
end zR4
