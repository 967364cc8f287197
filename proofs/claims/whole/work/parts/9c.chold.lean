/-! holds and the bodies that tell (class) -/
def zHot (H : zHo) (k : Nat) (σ : zSt) (n : Nat) : Prop := n < zcn σ 16 ∧ zgi σ 16 n 0 = iI (H.2 0 k) ∧ zgi σ 16 n 1 = iI (H.2 1 k) ∧ zgi σ 16 n 2 = iI (H.2 3 k)
def zHom (H : zHo) (k : Nat) (σ : zSt) (n : Nat) : Prop := n < zcn σ 17 ∧ zgi σ 17 n 0 = iI (H.2 0 k) ∧ zgi σ 17 n 1 = iI (H.2 1 k) ∧ zgi σ 17 n 2 + zgi σ 17 n 3 = iI (H.2 2 k) ∧ zgi σ 17 n 4 + zgi σ 17 n 5 = iI (H.2 3 k)
def zHD (H : zHo) (σ : zSt) : Prop := ∀ k, k < 8 → (H.1 k = -9 → (zgr σ 20 0 k).1 = 0 ∧ (zgr σ 21 0 k).1 = 0) ∧ (H.1 k = 0 → (zgr σ 21 0 k).1 = 0 ∧ ∃ n, zgr σ 20 0 k = (16, n) ∧ zHot H k σ n) ∧ (H.1 k = 1 → (zgr σ 20 0 k).1 = 0 ∧ ∃ n, zgr σ 21 0 k = (17, n) ∧ zHom H k σ n)
theorem zHD.of {H : zHo} {σ σ' : zSt} (h : zHD H σ) (hc : ∀ c, zcn σ c ≤ zcn σ' c) (hr : ∀ k, zgr σ' 20 0 k = zgr σ 20 0 k ∧ zgr σ' 21 0 k = zgr σ 21 0 k) (hi : ∀ c n k, (c = 16 ∨ c = 17) → n < zcn σ c → zgi σ' c n k = zgi σ c n k) : zHD H σ' := fun k hk => by
  obtain ⟨h1, h2, h3⟩ := h k hk
  rw [(hr k).1, (hr k).2]
  refine ⟨h1, fun z => ⟨(h2 z).1, ?_⟩, fun z => ⟨(h3 z).1, ?_⟩⟩
  · obtain ⟨n, q, q1, q2, q3, q4⟩ := (h2 z).2
    refine ⟨n, q, Nat.lt_of_lt_of_le q1 (hc 16), ?_, ?_, ?_⟩
    · rw [hi 16 n 0 (Or.inl rfl) q1]; exact q2
    · rw [hi 16 n 1 (Or.inl rfl) q1]; exact q3
    · rw [hi 16 n 2 (Or.inl rfl) q1]; exact q4
  · obtain ⟨n, q, q1, q2, q3, q4, q5⟩ := (h3 z).2
    refine ⟨n, q, Nat.lt_of_lt_of_le q1 (hc 17), ?_, ?_, ?_, ?_⟩
    · rw [hi 17 n 0 (Or.inr rfl) q1]; exact q2
    · rw [hi 17 n 1 (Or.inr rfl) q1]; exact q3
    · rw [hi 17 n 2 (Or.inr rfl) q1, hi 17 n 3 (Or.inr rfl) q1]; exact q4
    · rw [hi 17 n 4 (Or.inr rfl) q1, hi 17 n 5 (Or.inr rfl) q1]; exact q5
theorem zHD.only {H : zHo} {σ σ' : zSt} {M : Nat → Nat → Nat → Prop} (h : zHD H σ) (ho : zOnly M σ σ') (hh : σ'.2.2.2 = σ.2.2.2) (hm : ∀ j k, ¬ M 16 j k ∧ ¬ M 17 j k ∧ ¬ M 20 j k ∧ ¬ M 21 j k) : zHD H σ' :=
  h.of (fun c => by unfold zcn; rw [hh]; exact Nat.le_refl _) (fun k => ⟨ho.r 20 0 k (hm 0 k).2.2.1, ho.r 21 0 k (hm 0 k).2.2.2⟩) (fun c n k hc _ => by rcases hc with rfl | rfl; exact ho.i 16 n k (hm n k).1; exact ho.i 17 n k (hm n k).2.1)
theorem zin01 (b : Int32) : (0 ≤ b ∧ b ≤ (1 : Int32)) ↔ (b = 0 ∨ b = 1) := by
  have h := zin_k b (l := 0) (h := 1) (by omega) (by omega)
  refine Iff.trans h ⟨fun q => ?_, fun q => ?_⟩
  · have e := iI_of b
    have : b.toInt = 0 ∨ b.toInt = 1 := by omega
    rcases this with z | z
    · rw [z] at e; exact Or.inl e.symm
    · rw [z] at e; exact Or.inr e.symm
  · rcases q with rfl | rfl <;> decide
theorem hoI_b (a : Int32) : (0 ≤ a ∧ a ≤ (7 : Int32)) ↔ hoI a := zin_k a (l := 0) (h := 7) (by omega) (by omega)
/-- what is left in TRACE -/
def zTc (σ σ' : zSt) (l : List Int32) : Prop := zOnly (fun c _ k => c = 14 ∧ k = 0) σ σ' ∧ σ'.2.2.2 = σ.2.2.2 ∧ zgi σ' 14 0 0 = trF (zgi σ 14 0 0) l
theorem zTc.tr {a b c : zSt} {l m : List Int32} (h1 : zTc a b l) (h2 : zTc b c m) : zTc a c (l ++ m) := ⟨h1.1.tr h2.1, h2.2.1.trans h1.2.1, by
  rw [h2.2.2, h1.2.2]
  unfold trF
  rw [List.foldl_append]⟩
section zHs
variable {d kc ks : Nat} {σ : zSt} {A : zAb} {H : zHo} {Q : Option zV → zSt → Prop}
theorem S_X0_leave {ph : Bool} {K : zSt → Prop} (a : Int32) (hK : ∀ σ', zTc σ σ' [a] → K σ') : zCv ph (d + 1) 0 0 M_X0_leave [.inr (.inr (14, 0)), .inl (a)] σ K :=
  zC_intro pl_X0 (Nat.le_of_ble_eq_true rfl) (T_X0_leave_0 ⟨rfl, hK _ ⟨zOnly.si ⟨rfl, rfl⟩, rfl, by rw [zgi_si, if_pos ⟨rfl, rfl, rfl⟩]; rfl⟩⟩)
theorem S_X0_thingTells {ph : Bool} {K : Int32 → zSt → Prop} {n : Nat} {s : Int} (hs : 3 * zgi σ 16 n 0 = iI s) (hK : ∀ σ', zTc σ σ' [1] → K (iI s) σ') : zCi ph (d + 2) 0 0 M_X0_thingTells [.inr (.inr (14, 0)), .inr (.inr (16, n))] σ K :=
  zC_intro pl_X0 (Nat.le_of_ble_eq_true rfl) (T_X0_thingTells_0 (S_X0_leave 1 (fun σ' t => ⟨_, rfl, by rw [t.1.i 16 n 0 (by omega), hs]; exact hK σ' t⟩)))
theorem S_X0_anchorTells {ph : Bool} {K : Int32 → zSt → Prop} {n : Nat} {s m : Int} (hs : 3 * zgi σ 16 n 0 = iI s) (hm : zgi σ 16 n 2 = iI m) (hK : ∀ σ', zTc σ σ' [2, 1] → K (iI (s + m)) σ') : zCi ph (d + 3) 0 0 M_X0_anchorTells [.inr (.inr (14, 0)), .inr (.inr (16, n))] σ K :=
  zC_intro pl_X0 (Nat.le_of_ble_eq_true rfl) (T_X0_anchorTells_0 (S_X0_leave 2 (fun σ1 t1 => S_X0_thingTells (s := s) (by rw [t1.1.i 16 n 0 (by omega)]; exact hs) (fun σ2 t2 => ⟨_, rfl, by rw [t2.1.i 16 n 2 (by omega), t1.1.i 16 n 2 (by omega), hm, iI_add]; exact hK σ2 (t1.tr t2)⟩))))
theorem S_X0_beaconTells {ph : Bool} {K : Int32 → zSt → Prop} {n : Nat} {s m : Int} (hs : 3 * zgi σ 16 n 0 = iI s) (hm : zgi σ 16 n 2 = iI m) (hK : ∀ σ', zTc σ σ' [3, 2, 1, 1] → K (iI (s + m + s)) σ') : zCi ph (d + 4) 0 0 M_X0_beaconTells [.inr (.inr (14, 0)), .inr (.inr (16, n))] σ K :=
  zC_intro pl_X0 (Nat.le_of_ble_eq_true rfl) (T_X0_beaconTells_0 (S_X0_leave 3 (fun σ1 t1 => S_X0_anchorTells (s := s) (m := m) (by rw [t1.1.i 16 n 0 (by omega)]; exact hs) (by rw [t1.1.i 16 n 2 (by omega)]; exact hm) (fun σ2 t2 => S_X0_thingTells (s := s) (by rw [t2.1.i 16 n 0 (by omega), t1.1.i 16 n 0 (by omega)]; exact hs) (fun σ3 t3 => ⟨_, rfl, by rw [iI_add]; exact hK σ3 ((t1.tr t2).tr t3)⟩)))))
theorem S_X0_tellingOf {ph : Bool} {K : Int32 → zSt → Prop} {n : Nat} {h s m : Int} (hh : h = 0 ∨ h = 1 ∨ h = 2) (hk : zgi σ 16 n 1 = iI h) (hs : 3 * zgi σ 16 n 0 = iI s) (hm : zgi σ 16 n 2 = iI m) (hK : ∀ σ', zTc σ σ' (trT h) → K (iI (tlT h s m)) σ') : zCi ph (d + 5) 0 0 M_X0_tellingOf [.inr (.inr (14, 0)), .inr (.inr (16, n))] σ K := by
  refine zC_intro pl_X0 (Nat.le_of_ble_eq_true rfl) (T_X0_tellingOf_0 ?_)
  rw [hk]
  rcases hh with rfl | rfl | rfl
  · refine ⟨fun g => absurd g (by decide), fun g => absurd g (by decide), fun _ _ => S_X0_thingTells hs (fun σ' t => ⟨_, rfl, ?_⟩)⟩
    have := hK σ' t
    rw [show tlT 0 s m = s by unfold tlT; simp] at this
    exact this
  · refine ⟨fun _ => S_X0_anchorTells hs hm (fun σ' t => ⟨_, rfl, ?_⟩), fun g => absurd g (by decide), fun g => absurd rfl g⟩
    have := hK σ' t
    rw [show tlT 1 s m = s + m by unfold tlT; simp] at this
    exact this
  · refine ⟨fun g => absurd g (by decide), fun _ => S_X0_beaconTells hs hm (fun σ' t => ⟨_, rfl, ?_⟩), fun _ g => absurd rfl g⟩
    have := hK σ' t
    rw [show tlT 2 s m = s + m + s by unfold tlT; simp] at this
    exact this
theorem S_X0_measureTells {ph : Bool} {K : Int32 → zSt → Prop} {n : Nat} {s : Int} (hs : zgi σ 17 n 2 + zgi σ 17 n 3 = iI s) (hK : ∀ σ', zTc σ σ' [4] → K (iI s) σ') : zCi ph (d + 2) 0 0 M_X0_measureTells [.inr (.inr (14, 0)), .inr (.inr (17, n))] σ K :=
  zC_intro pl_X0 (Nat.le_of_ble_eq_true rfl) (T_X0_measureTells_0 (S_X0_leave 4 (fun σ' t => ⟨_, rfl, by rw [t.1.i 17 n 2 (by omega), t.1.i 17 n 3 (by omega), hs]; exact hK σ' t⟩)))
theorem S_X0_farTells {ph : Bool} {K : Int32 → zSt → Prop} {n : Nat} {s m : Int} (hs : zgi σ 17 n 2 + zgi σ 17 n 3 = iI s) (hm : zgi σ 17 n 4 + zgi σ 17 n 5 = iI m) (hK : ∀ σ', zTc σ σ' [5, 4] → K (iI (s + m)) σ') : zCi ph (d + 3) 0 0 M_X0_farTells [.inr (.inr (14, 0)), .inr (.inr (17, n))] σ K :=
  zC_intro pl_X0 (Nat.le_of_ble_eq_true rfl) (T_X0_farTells_0 (S_X0_leave 5 (fun σ1 t1 => S_X0_measureTells (s := s) (by rw [t1.1.i 17 n 2 (by omega), t1.1.i 17 n 3 (by omega)]; exact hs) (fun σ2 t2 => ⟨_, rfl, by rw [t2.1.i 17 n 4 (by omega), t1.1.i 17 n 4 (by omega), t2.1.i 17 n 5 (by omega), t1.1.i 17 n 5 (by omega), Int32.add_assoc, hm, iI_add]; exact hK σ2 (t1.tr t2)⟩))))
theorem S_X0_hearsTells {ph : Bool} {K : Int32 → zSt → Prop} {n : Nat} {s m : Int} (hs : zgi σ 17 n 2 + zgi σ 17 n 3 = iI s) (hm : zgi σ 17 n 4 + zgi σ 17 n 5 = iI m) (hK : ∀ σ', zTc σ σ' [6, 5, 4] → K (iI (s + m - 1000)) σ') : zCi ph (d + 4) 0 0 M_X0_hearsTells [.inr (.inr (14, 0)), .inr (.inr (17, n))] σ K :=
  zC_intro pl_X0 (Nat.le_of_ble_eq_true rfl) (T_X0_hearsTells_0 (S_X0_leave 6 (fun σ1 t1 => S_X0_farTells (s := s) (m := m) (by rw [t1.1.i 17 n 2 (by omega), t1.1.i 17 n 3 (by omega)]; exact hs) (by rw [t1.1.i 17 n 4 (by omega), t1.1.i 17 n 5 (by omega)]; exact hm) (fun σ2 t2 => ⟨_, rfl, by rw [show (1000 : Int32) = iI 1000 from rfl, iI_sub]; exact hK σ2 (t1.tr t2)⟩))))
theorem S_X0_deafTells {ph : Bool} {K : Int32 → zSt → Prop} {n : Nat} {s m : Int} (hs : zgi σ 17 n 2 + zgi σ 17 n 3 = iI s) (hm : zgi σ 17 n 4 + zgi σ 17 n 5 = iI m) (hK : ∀ σ', zTc σ σ' [7, 6, 5, 4, 4] → K (iI (s + m - 1000 + s)) σ') : zCi ph (d + 5) 0 0 M_X0_deafTells [.inr (.inr (14, 0)), .inr (.inr (17, n))] σ K :=
  zC_intro pl_X0 (Nat.le_of_ble_eq_true rfl) (T_X0_deafTells_0 (S_X0_leave 7 (fun σ1 t1 => S_X0_hearsTells (s := s) (m := m) (by rw [t1.1.i 17 n 2 (by omega), t1.1.i 17 n 3 (by omega)]; exact hs) (by rw [t1.1.i 17 n 4 (by omega), t1.1.i 17 n 5 (by omega)]; exact hm) (fun σ2 t2 => S_X0_measureTells (s := s) (by rw [t2.1.i 17 n 2 (by omega), t1.1.i 17 n 2 (by omega), t2.1.i 17 n 3 (by omega), t1.1.i 17 n 3 (by omega)]; exact hs) (fun σ3 t3 => ⟨_, rfl, by rw [iI_add]; exact hK σ3 ((t1.tr t2).tr t3)⟩)))))
theorem S_X0_stepsTells {ph : Bool} {K : Int32 → zSt → Prop} {n : Nat} {s m : Int} (hs : zgi σ 17 n 2 + zgi σ 17 n 3 = iI s) (hm : zgi σ 17 n 4 + zgi σ 17 n 5 = iI m) (hK : ∀ σ', zTc σ σ' [8, 5, 4] → K (iI (2 * (s + m))) σ') : zCi ph (d + 4) 0 0 M_X0_stepsTells [.inr (.inr (14, 0)), .inr (.inr (17, n))] σ K :=
  zC_intro pl_X0 (Nat.le_of_ble_eq_true rfl) (T_X0_stepsTells_0 (S_X0_leave 8 (fun σ1 t1 => S_X0_farTells (s := s) (m := m) (by rw [t1.1.i 17 n 2 (by omega), t1.1.i 17 n 3 (by omega)]; exact hs) (by rw [t1.1.i 17 n 4 (by omega), t1.1.i 17 n 5 (by omega)]; exact hm) (fun σ2 t2 => ⟨_, rfl, by rw [show (2 : Int32) = iI 2 from rfl, iI_mul]; exact hK σ2 (t1.tr t2)⟩))))
theorem S_X0_tellingOf_ {ph : Bool} {K : Int32 → zSt → Prop} {n : Nat} {h s m : Int} (hh : h = 0 ∨ h = 1 ∨ h = 2 ∨ h = 3 ∨ h = 4) (hk : zgi σ 17 n 1 = iI h) (hs : zgi σ 17 n 2 + zgi σ 17 n 3 = iI s) (hm : zgi σ 17 n 4 + zgi σ 17 n 5 = iI m) (hK : ∀ σ', zTc σ σ' (trM h) → K (iI (tlM h s m)) σ') : zCi ph (d + 6) 0 0 M_X0_tellingOf_ [.inr (.inr (14, 0)), .inr (.inr (17, n))] σ K := by
  refine zC_intro pl_X0 (Nat.le_of_ble_eq_true rfl) (T_X0_tellingOf__0 ?_)
  rw [hk]
  rcases hh with rfl | rfl | rfl | rfl | rfl
  · exact ⟨fun _ => S_X0_farTells hs hm (fun σ' t => ⟨_, rfl, hK σ' t⟩), fun g => absurd g (by decide), fun g => absurd g (by decide), fun g => absurd g (by decide), fun g => absurd g (by decide), fun g => absurd rfl g⟩
  · exact ⟨fun g => absurd g (by decide), fun _ => S_X0_hearsTells hs hm (fun σ' t => ⟨_, rfl, hK σ' t⟩), fun g => absurd g (by decide), fun g => absurd g (by decide), fun g => absurd g (by decide), fun _ g => absurd rfl g⟩
  · exact ⟨fun g => absurd g (by decide), fun g => absurd g (by decide), fun _ => S_X0_deafTells hs hm (fun σ' t => ⟨_, rfl, hK σ' t⟩), fun g => absurd g (by decide), fun g => absurd g (by decide), fun _ _ g => absurd rfl g⟩
  · exact ⟨fun g => absurd g (by decide), fun g => absurd g (by decide), fun g => absurd g (by decide), fun _ => S_X0_measureTells hs (fun σ' t => ⟨_, rfl, hK σ' t⟩), fun g => absurd g (by decide), fun _ _ _ g => absurd rfl g⟩
  · exact ⟨fun g => absurd g (by decide), fun g => absurd g (by decide), fun g => absurd g (by decide), fun g => absurd g (by decide), fun _ => S_X0_stepsTells hs hm (fun σ' t => ⟨_, rfl, hK σ' t⟩), fun _ _ _ _ g => absurd rfl g⟩
theorem S_X0_thingGreets {ph : Bool} {K : Int32 → zSt → Prop} {n : Nat} (hK : ∀ σ', zTc σ σ' [9] → K (zgi σ 16 n 0) σ') : zCi ph (d + 2) 0 0 M_X0_thingGreets [.inr (.inr (14, 0)), .inr (.inr (16, n))] σ K :=
  zC_intro pl_X0 (Nat.le_of_ble_eq_true rfl) (T_X0_thingGreets_0 (S_X0_leave 9 (fun σ' t => ⟨_, rfl, by rw [t.1.i 16 n 0 (by omega)]; exact hK σ' t⟩)))
theorem S_X0_greetingOf {ph : Bool} {K : Int32 → zSt → Prop} {n : Nat} {h s : Int} (hh : h = 0 ∨ h = 1 ∨ h = 2) (hk : zgi σ 16 n 1 = iI h) (hs : zgi σ 16 n 0 = iI s) (hK : ∀ σ', zTc σ σ' (grT h) → K (iI (gtT h s)) σ') : zCi ph (d + 4) 0 0 M_X0_greetingOf [.inr (.inr (14, 0)), .inr (.inr (16, n))] σ K := by
  refine zC_intro pl_X0 (Nat.le_of_ble_eq_true rfl) (T_X0_greetingOf_0 ?_)
  rw [hk]
  rcases hh with rfl | rfl | rfl
  · refine ⟨fun _ => S_X0_thingGreets (fun σ' t => ⟨_, rfl, ?_⟩), fun g => absurd g (by decide)⟩
    have := hK σ' t
    rw [show gtT 0 s = s by unfold gtT; simp] at this
    rw [hs]
    exact this
  · refine ⟨fun _ => S_X0_thingGreets (fun σ' t => ⟨_, rfl, ?_⟩), fun g => absurd g (by decide)⟩
    have := hK σ' t
    rw [show gtT 1 s = s by unfold gtT; simp] at this
    rw [hs]
    exact this
  · refine ⟨fun g => absurd rfl g, fun _ => zC_intro pl_X0 (Nat.le_of_ble_eq_true rfl) (T_X0_beaconGreets_0 (S_X0_leave 10 (fun σ1 t1 => S_X0_thingGreets (fun σ2 t2 => ⟨_, rfl, _, rfl, ?_⟩))))⟩
    have := hK σ2 (t1.tr t2)
    rw [show gtT 2 s = 500 + s by unfold gtT; simp; omega] at this
    rw [t1.1.i 16 n 0 (by omega), hs, show (500 : Int32) = iI 500 from rfl, iI_add]
    exact this
theorem S_X0_hearsWeighs {ph : Bool} {K : Int32 → zSt → Prop} (hK : ∀ σ', zTc σ σ' [12] → K 7 σ') : zCi ph (d + 2) 0 0 M_X0_hearsWeighs [.inr (.inr (14, 0))] σ K :=
  zC_intro pl_X0 (Nat.le_of_ble_eq_true rfl) (T_X0_hearsWeighs_0 (S_X0_leave 12 (fun σ' t => ⟨_, rfl, hK σ' t⟩)))
theorem S_X0_measureWeighs {ph : Bool} {K : Int32 → zSt → Prop} {n : Nat} (hK : ∀ σ', zTc σ σ' [11] → K (10 + zgi σ 17 n 1) σ') : zCi ph (d + 2) 0 0 M_X0_measureWeighs [.inr (.inr (14, 0)), .inr (.inr (17, n))] σ K :=
  zC_intro pl_X0 (Nat.le_of_ble_eq_true rfl) (T_X0_measureWeighs_0 (S_X0_leave 11 (fun σ' t => ⟨_, rfl, by rw [t.1.i 17 n 1 (by omega)]; exact hK σ' t⟩)))
theorem S_X0_weightOf {ph : Bool} {K : Int32 → zSt → Prop} {n : Nat} {h : Int} (hh : h = 0 ∨ h = 1 ∨ h = 2 ∨ h = 3 ∨ h = 4) (hk : zgi σ 17 n 1 = iI h) (hK : ∀ σ', zTc σ σ' (grM h) → K (iI (gtM h)) σ') : zCi ph (d + 4) 0 0 M_X0_weightOf [.inr (.inr (14, 0)), .inr (.inr (17, n))] σ K := by
  refine zC_intro pl_X0 (Nat.le_of_ble_eq_true rfl) (T_X0_weightOf_0 ?_)
  rw [hk]
  rcases hh with rfl | rfl | rfl | rfl | rfl
  · exact ⟨fun g => absurd g (by decide), fun g => absurd g (by decide), fun g => absurd g (by decide), fun g => absurd g (by decide), fun _ _ _ _ => S_X0_measureWeighs (fun σ' t => ⟨_, rfl, by rw [hk]; exact hK σ' t⟩)⟩
  · exact ⟨fun _ => S_X0_hearsWeighs (fun σ' t => ⟨_, rfl, hK σ' t⟩), fun g => absurd g (by decide), fun g => absurd g (by decide), fun g => absurd g (by decide), fun g => absurd rfl g⟩
  · exact ⟨fun g => absurd g (by decide), fun _ => S_X0_hearsWeighs (fun σ' t => ⟨_, rfl, hK σ' t⟩), fun g => absurd g (by decide), fun g => absurd g (by decide), fun _ g => absurd rfl g⟩
  · exact ⟨fun g => absurd g (by decide), fun g => absurd g (by decide), fun _ => S_X0_measureWeighs (fun σ' t => ⟨_, rfl, by rw [hk]; exact hK σ' t⟩), fun g => absurd g (by decide), fun _ _ g => absurd rfl g⟩
  · refine ⟨fun g => absurd g (by decide), fun g => absurd g (by decide), fun g => absurd g (by decide), fun _ => zC_intro pl_X0 (Nat.le_of_ble_eq_true rfl) (T_X0_stepsWeighs_0 (S_X0_leave 13 (fun σ1 t1 => S_X0_hearsWeighs (fun σ2 t2 => S_X0_measureWeighs (fun σ3 t3 => ⟨_, rfl, _, rfl, ?_⟩))))), fun _ _ _ g => absurd rfl g⟩
    rw [t2.1.i 17 n 1 (by omega), t1.1.i 17 n 1 (by omega), hk]
    exact hK σ3 ((t1.tr t2).tr t3)
theorem zHD.f {x : Int32} (h : zHD H σ) : zHD H (zsi σ 6 0 15 x) := h.only (M := fun c _ k => c = 6 ∧ k = 15) (zOnly.si ⟨rfl, rfl⟩) rfl (fun j k => by omega)
theorem S_X11_isHoldEmpty {K : Int32 → zSt → Prop} (hW : zWh H) (hH : zHD H σ) {k : Nat} (hk : k < 8) (hK : K (zb (H.1 k < 0)) σ) : zCi true (d + 1) 0 0 M_X11_isHoldEmpty [.inr (.inr (6, 0)), .inl (nI k)] σ K := by
  have i8 : vp_in (nI k) 8 := nI_in (by omega) (by omega)
  obtain ⟨h1, h2, h3⟩ := hH k hk
  refine zC_intro pl_X11 (Nat.le_of_ble_eq_true rfl) (T_X11_isHoldEmpty_0 ?_)
  rw [nI_clamp (show k < 2 ^ 31 by omega)]
  refine ⟨i8, fun _ => i8, fun x hx => ⟨_, rfl, ?_⟩⟩
  have e : x = zb (H.1 k < 0) := by
    rw [hx]
    rcases wh_rng hW hk with z | z | z
    · rw [if_neg (fun q => q.elim (fun q => q (h1 z).1) (fun q => q (h1 z).2))]
      simp [zb, z]
    · obtain ⟨n, q, -⟩ := (h2 z).2
      rw [if_pos (Or.inl (by rw [q]; exact Nat.succ_ne_zero _))]
      simp [zb, z]
    · obtain ⟨n, q, -⟩ := (h3 z).2
      rw [if_pos (Or.inr (by rw [q]; exact Nat.succ_ne_zero _))]
      simp [zb, z]
  rw [e]
  exact hK
end zHs
