/-! desks that change: what the class has found before -/
section zGq
variable {A A' : zAb} {σ σ' : zSt}
theorem zSa.f2 (h : zSa A A') (f : Nat → Nat → Nat) (hf : f = A.2.1) : A'.2.1 = f := by rw [hf]; exact h.2.1
theorem zSa.t_aK (h : zSa A A') : aK A' = aK A := funext h.t_K
theorem zSa.t_fA (h : zSa A A') : mA A' = mA A := funext h.t_mA
theorem zSa.t_fB (h : zSa A A') : mB A' = mB A := funext h.t_mB
theorem zSa.t_fK (h : zSa A A') : mK A' = mK A := by funext m; unfold mK; rw [h.2.1]
theorem zSa.t_fP (h : zSa A A') : mP A' = mP A := by funext m; unfold mP; rw [h.2.1]
theorem zSa.t_fQ (h : zSa A A') : mQ A' = mQ A := by funext m; unfold mQ; rw [h.2.1]
theorem zSa.t_vF (h : zSa A A') : vF A' = vF A := by funext m; unfold vF; rw [h.2.1]
theorem zSa.t_vT (h : zSa A A') : vT A' = vT A := by funext m; unfold vT; rw [h.2.1]
theorem zSa.t_vR (h : zSa A A') : vR A' = vR A := by funext m; unfold vR; rw [h.2.1]
theorem zSa.t_V (h : zSa A A') : aV A' = aV A := by unfold aV; rw [h.1]
theorem zSa.t_fC (h : zSa A A') : aC A' = aC A := funext h.2.2.1
theorem zSa.t_fkept (h : zSa A A') : kept A' = kept A := funext h.t_kept
theorem zSa.t_fgB (h : zSa A A') : gB A' = gB A := by funext u t c; exact h.t_gB u t c
theorem zSa.t_hop (h : zSa A A') (r c k e : Nat) : hopAt A' r c k e = hopAt A r c k e := hopAt_of2 h.t_free r c k e
theorem zSa.t_lk (h : zSa A A') : lkP A' = lkP A := by
  funext w x y
  unfold lkP
  rw [h.t_M, h.t_mO, h.t_fA, h.t_fB]
theorem zSa.t_gr (h : zSa A A') : gr A' = gr A := by
  funext t u
  unfold gr
  rw [h.t_lk, h.t_aK]
theorem zSa.t_grB (h : zSa A A') : grB A' = grB A := by
  funext t u
  exact Bool.eq_iff_iff.mpr (by rw [grB_iff, grB_iff, h.t_gr])
theorem zSa.t_gn (h : zSa A A') : gn A' = gn A := by funext t; unfold gn; rw [h.t_grB, h.t_N]
theorem zSa.t_mbr (h : zSa A A') : mbr A' = mbr A := by funext t i; unfold mbr; rw [h.t_grB, h.t_N]
theorem zSa.t_shut (h : zSa A A') : shut A' = shut A := by funext t c; unfold shut; rw [h.t_aK, h.t_fC, h.t_grB, h.t_N]
theorem zSa.t_bdM (h : zSa A A') : bdM A' = bdM A := by funext a b c e m; unfold bdM; rw [h.t_mO, h.t_fA, h.t_fB, h.t_fkept]
theorem zSa.t_prK (h : zSa A A') : prK A' = prK A := by funext t i j c e; unfold prK prN; rw [h.t_bdM, h.t_mbr, h.t_M]
theorem zSa.t_stB (h : zSa A A') (ha : aAl A' = aAl A) : stB A' = stB A := by funext t s d; unfold stB; rw [h.t_shut, h.t_prK, ha]
theorem zSa.t_evs (h : zSa A A') (ha : aAl A' = aAl A) (t : Nat) : ∀ r, evs A' t r = evs A t r
  | 0 => by funext d s k; rfl
  | r + 1 => by
    funext d s k
    unfold evs
    rw [h.t_mbr, h.t_stB ha, h.t_fgB, h.t_mO, zSa.t_evs h ha t r]
theorem zSa.t_evT (h : zSa A A') (ha : aAl A' = aAl A) : evT A' = evT A := by funext t; unfold evT; rw [h.t_gn, h.t_evs ha]
theorem zSa.t_plF (h : zSa A A') (ha : aAl A' = aAl A) : plF A' = plF A := by funext t; unfold plF; rw [h.t_evT ha]
theorem zSa.t_btV (h : zSa A A') (ha : aAl A' = aAl A) : btV A' = btV A := by funext t k; unfold btV; rw [h.t_plF ha]
theorem zSa.t_bpJ (h : zSa A A') (ha : aAl A' = aAl A) (t : Nat) : ∀ n i b, bpJ A' t i n b = bpJ A t i n b
  | 0, i, b => rfl
  | n + 1, i, b => by unfold bpJ; rw [h.t_gn, h.t_btV ha, zSa.t_bpJ h ha t n]
theorem zSa.t_bpI (h : zSa A A') (ha : aAl A' = aAl A) (t : Nat) : ∀ n b, bpI A' t n b = bpI A t n b
  | 0, b => rfl
  | n + 1, b => by unfold bpI; rw [h.t_gn, h.t_bpJ ha, zSa.t_bpI h ha t n]
theorem zSa.t_bwV (h : zSa A A') (ha : aAl A' = aAl A) (t : Nat) (e : Int32) : bwV A' t e = bwV A t e := by unfold bwV; rw [h.t_gn, h.t_bpI ha, h.t_mbr, h.t_btV ha]
theorem zSa.t_wyG (h : zSa A A') (v : Nat) : ∀ r, wyG A' v r = wyG A v r
  | 0 => by funext c; unfold wyG; rw [h.t_fgB, h.t_mO, h.t_vF, h.t_vT]
  | r + 1 => by
    funext c
    unfold wyG
    rw [h.t_fgB, h.t_mO, h.t_vF, h.t_vT, h.t_vR, zSa.t_wyG h v r]
theorem zSp.sa (h : zSa A A') {m : Nat} (s : zSp A σ m) : zSp A' σ m := fun h4 c hc => by
  rw [h.t_fK] at h4
  rw [s h4 c hc, h.t_fP, h.t_fQ]
  exact zset_cong (fun e he => (h.t_hop _ _ _ e).symm)
theorem zCR.sa (h : zSa A A') (c : zCR A σ) : zCR A' σ := by
  obtain ⟨c1, c2, c3⟩ := c
  refine ⟨c1, fun m hm hb => ?_, fun q => ?_⟩
  · obtain ⟨q1, q2⟩ := c2 m hm hb
    exact ⟨by rw [h.t_M]; exact q1, q2.sa h⟩
  · obtain ⟨y1, y2, y3⟩ := c3 q
    refine ⟨fun m hm => (y1 m (by rw [h.t_M] at hm; exact hm)).sa h, fun t ht => ?_, ?_⟩
    · rw [h.t_fgB, h.t_mO]
      exact y2 t (by rw [h.t_N] at ht; exact ht)
    · rw [y3, h.t_mO, h.t_quB]
theorem zCL.sa (h : zSa A A') (c : zCL A σ) : zCL A' σ := fun q => by
  rw [c q, h.t_M]
  exact zset_cong (fun m _ => by rw [h.t_lqU])
theorem zCS.sa (h : zSa A A') (ht : ∀ t, aTr A' t = aTr A t) (c : zCS A σ) : zCS A' σ := fun q => by
  rw [h.t_lyR ht, h.t_N]
  exact c q
theorem zCP.sa (h : zSa A A') (ha : aAl A' = aAl A) (c : zCP A σ) : zCP A' σ := by
  rcases c with c | ⟨t, ht, c⟩
  · exact Or.inl c
  · refine Or.inr ⟨t, by rw [h.t_N]; exact ht, ?_⟩
    unfold zPC zFo at c ⊢
    rw [h.t_grB, h.t_gn, h.t_mbr, h.t_evT ha, h.t_plF ha, h.t_bwV ha, h.t_bwV ha, h.t_bwV ha]
    exact c
theorem zCY.sa (h : zSa A A') (c : zCY A σ) : zCY A' σ := by
  rcases c with c | ⟨v, hv, q, w⟩
  · exact Or.inl c
  · refine Or.inr ⟨v, by rw [h.t_V]; exact hv, q, fun t h1 h2 c hc hg => ?_⟩
    rw [h.t_vT] at h2
    rw [h.t_fgB, h.t_mO, h.t_vF] at hg
    rw [h.t_vT, h.t_wyG]
    exact w t h1 h2 c hc hg
theorem zCC.sa (h : zSa A A') (ht : ∀ t, aTr A' t = aTr A t) (ha : aAl A' = aAl A) (c : zCC A σ) : zCC A' σ := ⟨c.1.sa h, c.2.1.sa h, c.2.2.1.sa h ht, c.2.2.2.1.sa h ha, c.2.2.2.2.sa h⟩
/-- after a change: all but the steps found is forgotten -/
theorem zCC.fg (f : zForg σ) (hG : zGr σ) (hS : zKS A σ) : zCC A σ := by
  obtain ⟨f1, f2, f3, f4, f5⟩ := f
  exact ⟨⟨hG, hS, fun q => absurd f1 q⟩, fun q => absurd f2 q, fun q => absurd f3 q, Or.inl f4, Or.inl f5⟩
theorem zKS.zero (h : zgl σ 9 0 3 = 0) : zKS A σ := fun m hm hb => by
  rw [h, tb_0] at hb
  exact absurd hb (by decide)
/-- steps stay where free cells and measures stay -/
theorem zKS.to (h : zKS A σ) (hM : aM A ≤ aM A') (hf : ∀ c, afree A' c = afree A c) (hm : ∀ m, m < aM A → mK A' m = mK A m ∧ mP A' m = mP A m ∧ mQ A' m = mQ A m) : zKS A' σ := fun m h64 hb => by
  obtain ⟨q1, q2⟩ := h m h64 hb
  obtain ⟨e1, e2, e3⟩ := hm m q1
  refine ⟨by omega, fun h4 c hc => ?_⟩
  rw [e1] at h4
  rw [q2 h4 c hc, e2, e3]
  exact zset_cong (fun e he => (hopAt_of2 hf _ _ _ e).symm)
end zGq
