/-! combinators of walks -/
theorem znar01 {x : Int32} (h : x = 0 ∨ x = 1) : narrow .boolean (.int x) = .int x := by rcases h with rfl | rfl <;> rfl
def zle : List (Option zV) → List (Option zV) → Prop
  | [], _ => True
  | none :: t, L => zle t L.tail
  | some a :: t, L => L.head? = some (some a) ∧ zle t L.tail
theorem zle_sub : ∀ {L' L : List (Option zV)}, zle L' L → ∀ (i : Nat) (v : zV), L'[i]? = some (some v) → L[i]? = some (some v)
  | [], L, _, i, v, h => by simp at h
  | none :: t, L, hz, i, v, h => by
    match i with
    | 0 => simp at h
    | i + 1 =>
      have := zle_sub (L' := t) (L := L.tail) hz i v (by simpa using h)
      rw [List.getElem?_tail] at this
      exact this
  | some a :: t, L, hz, i, v, h => by
    match i with
    | 0 =>
      have e : a = v := by simpa using h
      subst e
      have := hz.1
      rwa [List.head?_eq_getElem?] at this
    | i + 1 =>
      have := zle_sub (L' := t) (L := L.tail) hz.2 i v (by simpa using h)
      rw [List.getElem?_tail] at this
      exact this
def zCi (ph : Bool) (d kc ks : Nat) (M : zMth) (As : List zV) (σ : zSt) (K : Int32 → zSt → Prop) : Prop := zC ph d kc ks M As σ (fun r σ' => ∃ x, r = some (.inl x) ∧ K x σ')
def zCl (ph : Bool) (d kc ks : Nat) (M : zMth) (As : List zV) (σ : zSt) (K : Int64 → zSt → Prop) : Prop := zC ph d kc ks M As σ (fun r σ' => ∃ x, r = some (.inr (.inl x)) ∧ K x σ')
def zCr (ph : Bool) (d kc ks : Nat) (M : zMth) (As : List zV) (σ : zSt) (K : Nat × Nat → zSt → Prop) : Prop := zC ph d kc ks M As σ (fun r σ' => ∃ x, r = some (.inr (.inr x)) ∧ K x σ')
def zCv (ph : Bool) (d kc ks : Nat) (M : zMth) (As : List zV) (σ : zSt) (K : zSt → Prop) : Prop := zC ph d kc ks M As σ (fun r σ' => r = none ∧ K σ')
theorem zC.mono {ph : Bool} {d kc ks : Nat} {M : zMth} {As : List zV} {σ : zSt} {Q Q' : Option zV → zSt → Prop} (h : zC ph d kc ks M As σ Q) (hq : ∀ r σ', Q r σ' → Q' r σ') : zC ph d kc ks M As σ Q' := by
  intro D acl z l p e ha hc hk s m args below hf hap hP hK
  obtain ⟨t, o, h1, h2, h3, h4, h5⟩ := h D acl z l p e ha hc hk s m args below hf hap hP hK
  obtain ⟨⟨r, σ', e1, e2, e3⟩, hF⟩ := h4
  exact ⟨t, o, h1, h2, h3, ⟨⟨r, σ', e1, hq _ _ e2, e3⟩, hF⟩, h5⟩
section zCo
variable {ph : Bool} {d kc ks : Nat} {M : zMth} {As : List zV} {σ : zSt} {G : Prop} {E : Option zV → zSt → Prop}
theorem zCi.mono {K K' : Int32 → zSt → Prop} (h : zCi ph d kc ks M As σ K) (hk : ∀ x σ', K x σ' → K' x σ') : zCi ph d kc ks M As σ K' := zC.mono h (fun r σ' ⟨x, e, q⟩ => ⟨x, e, hk _ _ q⟩)
theorem zCl.mono {K K' : Int64 → zSt → Prop} (h : zCl ph d kc ks M As σ K) (hk : ∀ x σ', K x σ' → K' x σ') : zCl ph d kc ks M As σ K' := zC.mono h (fun r σ' ⟨x, e, q⟩ => ⟨x, e, hk _ _ q⟩)
theorem zCr.mono {K K' : Nat × Nat → zSt → Prop} (h : zCr ph d kc ks M As σ K) (hk : ∀ x σ', K x σ' → K' x σ') : zCr ph d kc ks M As σ K' := zC.mono h (fun r σ' ⟨x, e, q⟩ => ⟨x, e, hk _ _ q⟩)
theorem zCv.mono {K K' : zSt → Prop} (h : zCv ph d kc ks M As σ K) (hk : ∀ σ', K σ' → K' σ') : zCv ph d kc ks M As σ K' := zC.mono h (fun r σ' ⟨e, q⟩ => ⟨e, hk _ q⟩)
theorem zcI {K : Int32 → zSt → Prop} (h : zCi ph d kc ks M As σ K) (R : zC ph d kc ks M As σ (fun r σ' => ∃ x, r = some (.inl x) ∧ K x σ') → (∀ r σ', (∃ x, r = some (.inl x) ∧ K x σ') → zX σ σ' → E r σ') → G) (kk : ∀ x σ', K x σ' → E (some (.inl x)) σ') : G :=
  R h (fun r σ' ⟨x, e, q⟩ _ => by subst e; exact kk x σ' q)
theorem zcL {K : Int64 → zSt → Prop} (h : zCl ph d kc ks M As σ K) (R : zC ph d kc ks M As σ (fun r σ' => ∃ x, r = some (.inr (.inl x)) ∧ K x σ') → (∀ r σ', (∃ x, r = some (.inr (.inl x)) ∧ K x σ') → zX σ σ' → E r σ') → G) (kk : ∀ x σ', K x σ' → E (some (.inr (.inl x))) σ') : G :=
  R h (fun r σ' ⟨x, e, q⟩ _ => by subst e; exact kk x σ' q)
theorem zcR {K : Nat × Nat → zSt → Prop} (h : zCr ph d kc ks M As σ K) (R : zC ph d kc ks M As σ (fun r σ' => ∃ x, r = some (.inr (.inr x)) ∧ K x σ') → (∀ r σ', (∃ x, r = some (.inr (.inr x)) ∧ K x σ') → zX σ σ' → E r σ') → G) (kk : ∀ x σ', K x σ' → E (some (.inr (.inr x))) σ') : G :=
  R h (fun r σ' ⟨x, e, q⟩ _ => by subst e; exact kk x σ' q)
theorem zcV {K : zSt → Prop} (h : zCv ph d kc ks M As σ K) (R : zC ph d kc ks M As σ (fun r σ' => r = none ∧ K σ') → (∀ r σ', (r = none ∧ K σ') → zX σ σ' → E r σ') → G) (kk : ∀ σ', K σ' → E none σ') : G :=
  R h (fun r σ' ⟨e, q⟩ _ => by subst e; exact kk σ' q)
theorem zcKI {σ0 : zSt} {val : Int32} (SK : ∀ K : Int32 → zSt → Prop, K val σ → zCi ph d kc ks M As σ K) (R : zC ph d kc ks M As σ (fun r σ' => ∃ x, r = some (.inl x) ∧ x = val ∧ σ' = σ0) → (∀ r σ', (∃ x, r = some (.inl x) ∧ x = val ∧ σ' = σ0) → zX σ σ' → E r σ') → G) (hσ : σ0 = σ) (k : E (some (.inl val)) σ) : G := by
  subst hσ
  exact R (SK (fun x σ' => x = val ∧ σ' = σ0) ⟨rfl, rfl⟩) (fun r σ' ⟨x, e, e1, e2⟩ _ => by subst e; subst e1; subst e2; exact k)
theorem zcKL {σ0 : zSt} {val : Int64} (SK : ∀ K : Int64 → zSt → Prop, K val σ → zCl ph d kc ks M As σ K) (R : zC ph d kc ks M As σ (fun r σ' => ∃ x, r = some (.inr (.inl x)) ∧ x = val ∧ σ' = σ0) → (∀ r σ', (∃ x, r = some (.inr (.inl x)) ∧ x = val ∧ σ' = σ0) → zX σ σ' → E r σ') → G) (hσ : σ0 = σ) (k : E (some (.inr (.inl val))) σ) : G := by
  subst hσ
  exact R (SK (fun x σ' => x = val ∧ σ' = σ0) ⟨rfl, rfl⟩) (fun r σ' ⟨x, e, e1, e2⟩ _ => by subst e; subst e1; subst e2; exact k)
theorem r_ref {pc : Nat} {L : List (Option zV)} {S : List zV} {r : Nat × Nat} {c j : Nat} {Q : Option zV → zSt → Prop} (h : r = (c, j)) (k : zE ph d kc ks M pc L (.inr (.inr (c, j)) :: S) σ Q) : zE ph d kc ks M pc L (.inr (.inr r) :: S) σ Q := by subst h; exact k
end zCo
