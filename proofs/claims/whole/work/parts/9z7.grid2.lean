/-! the grid is made: the loops -/
def zGI (F S : Nat → Nat → Nat → Bool) (σ τ : zSt) : Prop := (∀ a b e, zgi τ a b e = zgi σ a b e) ∧ (∀ a b e, zgr τ a b e = zgr σ a b e) ∧ τ.2.2.2 = σ.2.2.2 ∧ (∀ a b e, ¬ (a = 32 ∧ b < 99) → ¬ (a = 34 ∧ b < 4) → zgl τ a b e = zgl σ a b e) ∧ (∀ r c, r < 99 → c < 64 → zgl τ 32 r c = zset (F r c) 64) ∧ ∀ s c, s < 4 → c < 64 → zgl τ 34 s c = zset (S s c) 64
def gF1 (n m r c d : Nat) : Bool := if c < n then decide (zdist c d ≤ r) else decide (c = n) && decide (d < m) && decide (zdist c d = r)
def gS1 (n m s c d : Nat) : Bool := if c < n then zside c d s else decide (c = n) && decide (d < m) && zside c d s
def gF2 (n q r c d : Nat) : Bool := if c < n then decide (zdist c d ≤ r) else decide (c = n) && (if r < q then decide (zdist c d ≤ r) else decide (zdist c d = r))
def gS2 (n s c d : Nat) : Bool := decide (c ≤ n) && zside c d s
section zGd2
variable {d kc ks : Nat} {σ τ υ : zSt} {Q : Option zV → zSt → Prop} {c o n m q : Nat} {F F' S S' : Nat → Nat → Nat → Bool}
theorem zGI.cong (h : zGI F S σ τ) (h1 : ∀ r c i, r < 99 → c < 64 → i < 64 → F r c i = F' r c i) (h2 : ∀ s c i, s < 4 → c < 64 → i < 64 → S s c i = S' s c i) : zGI F' S' σ τ := by
  obtain ⟨a1, a2, a3, a4, a5, a6⟩ := h
  exact ⟨a1, a2, a3, a4, fun r c hr hc => by rw [a5 r c hr hc]; exact zset_cong (fun i hi => h1 r c i hr hc hi), fun s c hs hc => by rw [a6 s c hs hc]; exact zset_cong (fun i hi => h2 s c i hs hc hi)⟩
theorem zGI.mark (h : zGI (gF1 n m) (gS1 n m) σ τ) (hn : n < 64) (hm : m < 64) (l : zLx (fun a b => (a = 32 ∧ b = zdist n m) ∨ (a = 34 ∧ b < 4 ∧ zside n m b = true)) n m τ υ) : zGI (gF1 n (m + 1)) (gS1 n (m + 1)) σ υ := by
  obtain ⟨a1, a2, a3, a4, a5, a6⟩ := h
  obtain ⟨b1, b2, b3, b4⟩ := l
  have hd := (gm1 n hn m hm).2
  refine ⟨fun a b e => (b1 a b e).trans (a1 a b e), fun a b e => (b2 a b e).trans (a2 a b e), b3.trans a3, fun a b e g1 g2 => ?_, fun r c hr hc => ?_, fun s c hs hc => ?_⟩
  · rw [(b4 a b e).2 (fun w => ?_), a4 a b e g1 g2]
    rcases w.1 with w1 | w1
    · exact g1 ⟨w1.1, by omega⟩
    · exact g2 ⟨w1.1, w1.2.1⟩
  · by_cases z : r = zdist n m ∧ c = n
    · obtain ⟨rfl, rfl⟩ := z
      rw [(b4 32 _ c).1 ⟨Or.inl ⟨rfl, rfl⟩, rfl⟩, a5 _ _ hr hc]
      refine zset_eq (fun i hi => ?_)
      rw [tb_or, tb_set hi, tb_bit hm]
      unfold gF1
      rw [if_neg (Nat.lt_irrefl c), if_neg (Nat.lt_irrefl c), decide_eq_true (rfl : c = c), Bool.true_and, Bool.true_and]
      by_cases e : i = m
      · subst e
        simp
      · rw [decide_eq_false e, Bool.or_false]
        congr 1
        rw [decide_eq_decide]
        omega
    · rw [(b4 32 r c).2 (fun w => z ⟨by rcases w.1 with w1 | w1; exact w1.2; exact absurd w1.1 (by omega), w.2⟩), a5 r c hr hc]
      refine zset_cong (fun i hi => ?_)
      unfold gF1
      by_cases e1 : c < n
      · rw [if_pos e1, if_pos e1]
      · rw [if_neg e1, if_neg e1]
        by_cases e2 : c = n
        · subst e2
          rw [decide_eq_true (rfl : c = c), Bool.true_and, Bool.true_and]
          by_cases e3 : i = m
          · subst e3
            rw [decide_eq_false (fun w => z ⟨w.symm, rfl⟩ : ¬ zdist c i = r), Bool.and_false, Bool.and_false]
          · congr 1
            rw [decide_eq_decide]
            omega
        · rw [decide_eq_false e2]
          simp
  · by_cases z : c = n ∧ zside n m s = true
    · obtain ⟨rfl, z2⟩ := z
      rw [(b4 34 s c).1 ⟨Or.inr ⟨rfl, hs, z2⟩, rfl⟩, a6 _ _ hs hc]
      refine zset_eq (fun i hi => ?_)
      rw [tb_or, tb_set hi, tb_bit hm]
      unfold gS1
      rw [if_neg (Nat.lt_irrefl c), if_neg (Nat.lt_irrefl c), decide_eq_true (rfl : c = c), Bool.true_and, Bool.true_and]
      by_cases e : i = m
      · subst e
        rw [z2]
        simp
      · rw [decide_eq_false e, Bool.or_false]
        congr 1
        rw [decide_eq_decide]
        omega
    · rw [(b4 34 s c).2 (fun w => z ⟨w.2, by rcases w.1 with w1 | w1; exact absurd w1.1 (by omega); exact w1.2.2⟩), a6 s c hs hc]
      refine zset_cong (fun i hi => ?_)
      unfold gS1
      by_cases e1 : c < n
      · rw [if_pos e1, if_pos e1]
      · rw [if_neg e1, if_neg e1]
        by_cases e2 : c = n
        · subst e2
          rw [decide_eq_true (rfl : c = c), Bool.true_and, Bool.true_and]
          by_cases e3 : i = m
          · subst e3
            have : zside c i s = false := by
              cases hh : zside c i s with
              | true => exact absurd ⟨rfl, hh⟩ z
              | false => rfl
            rw [this, Bool.and_false, Bool.and_false]
          · congr 1
            rw [decide_eq_decide]
            omega
        · rw [decide_eq_false e2]
          simp
theorem L_X3_in (h80 : zgr σ 8 0 0 = (31, 0)) (h81 : zgr σ 8 0 1 = (33, 0)) (h31 : ∀ e, e < 99 → zgr σ 31 0 e = (32, e)) (h33 : ∀ e, e < 4 → zgr σ 33 0 e = (34, e)) (hn : n < 64) (hQ : ∀ τ, zGI (gF1 n 64) (gS1 n 64) σ τ → zE false (d + 3) kc ks M_X3_init 57 [some (.inr (.inr (8, 0))), some (.inl (nI n)), some (.inl 1)] [] τ Q) : ∀ k m, m + k = 64 → ∀ τ, zGI (gF1 n m) (gS1 n m) σ τ → zE false (d + 3) kc ks M_X3_init 37 [some (.inr (.inr (8, 0))), some (.inl (nI n)), some (.inl (nI m))] [] τ Q := by
  intro k
  induction k with
  | zero =>
    intro m hm τ h
    have : m = 64 := by omega
    subst this
    exact T_X3_init_37 ⟨fun _ => hQ τ h, fun g => absurd (by decide) g⟩
  | succ k ih =>
    intro m hm τ h
    have hm64 : m < 64 := by omega
    refine T_X3_init_37 ⟨fun g => absurd g ?_, fun _ => ?_⟩
    · rw [show (64 : Int32) = nI 64 from rfl, Int32.le_iff_toInt_le, nI_toInt (by omega), nI_toInt (by omega)]
      omega
    · refine S_X3_markN (d := d) hn hm64 (by rw [h.2.1]; exact h80) (by rw [h.2.1]; exact h81) (fun e he => by rw [h.2.1]; exact h31 e he) (fun e he => by rw [h.2.1]; exact h33 e he) (fun υ l => ?_)
      rw [show (nI m + 1 : Int32) = nI (m + 1) from nI_add m 1]
      exact ih (m + 1) (by omega) υ (h.mark hn hm64 l)
theorem L_X3_r (h80 : zgr σ 8 0 0 = (31, 0)) (h31 : ∀ e, e < 99 → zgr σ 31 0 e = (32, e)) (hn : n < 64) (hQ : ∀ τ, zGI (gF2 n 99) (gS2 n) σ τ → zE false (d + 3) kc ks M_X3_init 29 [some (.inr (.inr (8, 0))), some (.inl (nI n + 1)), none] [] τ Q) : ∀ k q, 1 ≤ q → q + k = 99 → ∀ τ, zGI (gF2 n q) (gS2 n) σ τ → zE false (d + 3) kc ks M_X3_init 57 [some (.inr (.inr (8, 0))), some (.inl (nI n)), some (.inl (nI q))] [] τ Q := by
  intro k
  induction k with
  | zero =>
    intro q h1 hq τ h
    have : q = 99 := by omega
    subst this
    exact T_X3_init_57 ⟨fun _ => hQ τ h, fun g => absurd (by decide) g⟩
  | succ k ih =>
    intro q h1 hq τ h
    have e1 : (nI q - 1 : Int32) = nI (q - 1) := nI_sub h1
    have cq : (nI q).toNatClampNeg = q := nI_clamp (by omega)
    have cn : (nI n).toNatClampNeg = n := nI_clamp (by omega)
    have cq1 : (nI (q - 1)).toNatClampNeg = q - 1 := nI_clamp (by omega)
    have ni : vp_in (nI n) 64 := nI_in (by omega) (by omega)
    refine T_X3_init_57 ⟨fun g => absurd g ?_, fun _ => ?_⟩
    · rw [show (98 : Int32) = nI 98 from rfl, Int32.lt_iff_toInt_lt, nI_toInt (by omega), nI_toInt (by omega)]
      omega
    · rw [e1, cq, cn, cq1, h.2.1, h.2.1, h.2.1]
      refine ⟨h80, ⟨nI_in (by omega) (by omega), h31 q (by omega)⟩, ni, h80, ⟨nI_in (by omega) (by omega), h31 (q - 1) (by omega)⟩, ni, ni, ?_⟩
      rw [show (nI q + 1 : Int32) = nI (q + 1) from nI_add q 1]
      refine ih (q + 1) (by omega) (by omega) _ ?_
      obtain ⟨a1, a2, a3, a4, a5, a6⟩ := h
      refine ⟨a1, a2, a3, fun a b e g1 g2 => ?_, fun r c hr hc => ?_, fun s c hs hc => ?_⟩
      · rw [zgl_sl, if_neg (fun w => g1 ⟨w.1, by omega⟩)]
        exact a4 a b e g1 g2
      · rw [zgl_sl]
        by_cases z : r = q ∧ c = n
        · obtain ⟨rfl, rfl⟩ := z
          rw [if_pos ⟨rfl, rfl, rfl⟩, a5 r c hr hc, a5 (r - 1) c (by omega) hc]
          refine zset_eq (fun i hi => ?_)
          rw [tb_or, tb_set hi, tb_set hi]
          unfold gF2
          rw [if_neg (Nat.lt_irrefl c), if_neg (Nat.lt_irrefl c), if_neg (Nat.lt_irrefl c), decide_eq_true (rfl : c = c), Bool.true_and, Bool.true_and, Bool.true_and, if_neg (Nat.lt_irrefl r), if_pos (by omega), if_pos (by omega), Bool.eq_iff_iff, Bool.or_eq_true, decide_eq_true_eq, decide_eq_true_eq, decide_eq_true_eq]
          omega
        · rw [if_neg (fun w => z ⟨w.2.1, w.2.2⟩), a5 r c hr hc]
          refine zset_cong (fun i hi => ?_)
          unfold gF2
          by_cases e2 : c < n
          · rw [if_pos e2, if_pos e2]
          · rw [if_neg e2, if_neg e2]
            by_cases e3 : c = n
            · have e4 : r ≠ q := fun w => z ⟨w, e3⟩
              by_cases e5 : r < q
              · rw [if_pos e5, if_pos (by omega)]
              · rw [if_neg e5, if_neg (by omega)]
            · rw [decide_eq_false e3, Bool.false_and, Bool.false_and]
      · rw [zgl_sl, if_neg (fun w => by omega)]
        exact a6 s c hs hc
theorem L_X3_out (h80 : zgr σ 8 0 0 = (31, 0)) (h81 : zgr σ 8 0 1 = (33, 0)) (h31 : ∀ e, e < 99 → zgr σ 31 0 e = (32, e)) (h33 : ∀ e, e < 4 → zgr σ 33 0 e = (34, e)) (hQ : ∀ τ, zGI (gF1 64 0) (gS1 64 0) σ τ → Q none τ) : ∀ k n, n + k = 64 → ∀ τ, zGI (gF1 n 0) (gS1 n 0) σ τ → zE false (d + 3) kc ks M_X3_init 29 [some (.inr (.inr (8, 0))), some (.inl (nI n)), none] [] τ Q := by
  intro k
  induction k with
  | zero =>
    intro n hn τ h
    have : n = 64 := by omega
    subst this
    exact T_X3_init_29 ⟨fun _ => hQ τ h, fun g => absurd (by decide) g⟩
  | succ k ih =>
    intro n hn τ h
    have hn64 : n < 64 := by omega
    refine T_X3_init_29 ⟨fun g => absurd g ?_, fun _ => ?_⟩
    · rw [show (64 : Int32) = nI 64 from rfl, Int32.le_iff_toInt_le, nI_toInt (by omega), nI_toInt (by omega)]
      omega
    · refine L_X3_in h80 h81 h31 h33 hn64 (fun υ l => ?_) 64 0 (by omega) τ h
      refine L_X3_r h80 h31 hn64 (fun φ l2 => ?_) 98 1 (by omega) (by omega) υ (l.cong (fun r c i hr hc hi => ?_) (fun s c i hs hc hi => ?_))
      · rw [show (nI n + 1 : Int32) = nI (n + 1) from nI_add n 1]
        refine ih (n + 1) (by omega) φ (l2.cong (fun r c i hr hc hi => ?_) (fun s c i hs hc hi => ?_))
        · unfold gF2 gF1
          by_cases e1 : c < n
          · rw [if_pos e1, if_pos (by omega)]
          · rw [if_neg e1]
            by_cases e2 : c = n
            · rw [decide_eq_true e2, Bool.true_and, if_pos hr, if_pos (by omega)]
            · rw [decide_eq_false e2, Bool.false_and, if_neg (by omega)]
              simp
        · unfold gS2 gS1
          by_cases e1 : c ≤ n
          · rw [decide_eq_true e1, Bool.true_and, if_pos (by omega)]
          · rw [decide_eq_false e1, Bool.false_and, if_neg (by omega)]
            simp
      · unfold gF2 gF1
        by_cases e1 : c < n
        · rw [if_pos e1, if_pos e1]
        · rw [if_neg e1, if_neg e1, decide_eq_true hi, Bool.and_true]
          congr 1
          by_cases e2 : r < 1
          · rw [if_pos e2, decide_eq_decide]
            omega
          · rw [if_neg e2]
      · unfold gS2 gS1
        by_cases e1 : c < n
        · rw [if_pos e1, decide_eq_true (by omega), Bool.true_and]
        · rw [if_neg e1, decide_eq_true hi, Bool.and_true]
          by_cases e2 : c = n
          · rw [decide_eq_true e2, decide_eq_true (by omega)]
          · rw [decide_eq_false e2, decide_eq_false (by omega)]
theorem S_X3_init {K : zSt → Prop} (hZ : zZ0 σ) (h8 : 0 < zcn σ 8) (h31 : zcn σ 31 = 0) (h32 : zcn σ 32 = 0) (h33 : zcn σ 33 = 0) (h34 : zcn σ 34 = 0) (hK : ∀ σ', zZ0 σ' → zOnly (fun a b _ => (a = 8 ∧ b = 0) ∨ (31 ≤ a ∧ a ≤ 34)) σ σ' → (∀ c, c ≠ 31 → c ≠ 32 → c ≠ 33 → c ≠ 34 → zcn σ' c = zcn σ c) → zcn σ' 31 = 1 → zcn σ' 32 = 99 → zcn σ' 33 = 1 → zcn σ' 34 = 4 → zgr σ' 8 0 0 = (31, 0) → zgr σ' 8 0 1 = (33, 0) → (∀ e, e < 99 → zgr σ' 31 0 e = (32, e)) → (∀ e, e < 4 → zgr σ' 33 0 e = (34, e)) → zGr σ' → K σ') : zCv false (d + 3) 105 6695 M_X3_init [.inr (.inr (8, 0))] σ K := by
  refine zC_intro pl_X3 (Nat.le_of_ble_eq_true rfl) ?_
  refine T_X3_init_0 (kc := 5) (ks := 260) ?_
  refine T_X3_init_16 (kc := 0) (ks := 0) (T_X3_init_27 ?_)
  have z1 : zZ0 (zsr (zmna σ 31 32 99) 8 0 0 (31, zcn σ 31)) := (hZ.mna (c := 31) (c2 := 32) (n := 99) (by decide) (by decide) (by decide)).sr h8
  have o1 : zOnly (fun a b _ => (a = 8 ∧ b = 0) ∨ (31 ≤ a ∧ a ≤ 34)) σ (zsr (zmna σ 31 32 99) 8 0 0 (31, zcn σ 31)) := ((zZ0.mon hZ (c := 31) (c2 := 32) (n := 99) (by decide) (by decide)).mono (fun a b e q => by omega)).tr (zOnly.sr (Or.inl ⟨rfl, rfl⟩))
  have c1 : zcn (zsr (zmna σ 31 32 99) 8 0 0 (31, zcn σ 31)) 31 = 1 ∧ zcn (zsr (zmna σ 31 32 99) 8 0 0 (31, zcn σ 31)) 32 = 99 ∧ ∀ c, c ≠ 31 → c ≠ 32 → zcn (zsr (zmna σ 31 32 99) 8 0 0 (31, zcn σ 31)) c = zcn σ c := by
    refine ⟨by show zcn σ 31 + 1 = 1; rw [h31], by show zcn σ 32 + 99 = 99; rw [h32], fun c q1 q2 => ?_⟩
    rw [zcn_sr, zcn_mna, if_neg q1, if_neg q2]
  have r1 : zgr (zsr (zmna σ 31 32 99) 8 0 0 (31, zcn σ 31)) 8 0 0 = (31, 0) ∧ ∀ e, e < 99 → zgr (zsr (zmna σ 31 32 99) 8 0 0 (31, zcn σ 31)) 31 0 e = (32, e) := by
    refine ⟨by show (31, zcn σ 31) = (31, 0); rw [h31], fun e he => ?_⟩
    show zgr (zmna σ 31 32 99) 31 0 e = _
    rw [zgr_mna, if_pos ⟨rfl, (show 0 = zcn σ 31 from h31.symm)⟩, if_pos he]
    show (32, zcn σ 32 + e) = _
    rw [h32, Nat.zero_add]
  have l1 : ∀ a b e, a = 32 ∨ a = 34 → zgl (zsr (zmna σ 31 32 99) 8 0 0 (31, zcn σ 31)) a b e = 0 := fun a b e q => by
    show zgl (zmna σ 31 32 99) a b e = 0
    rw [hZ.mgl (by decide)]
    exact (hZ a b e (by omega) (by rcases q with rfl | rfl <;> omega)).2.1
  generalize zsr (zmna σ 31 32 99) 8 0 0 (31, zcn σ 31) = τ at z1 o1 c1 r1 l1 ⊢
  have n33 : zcn τ 33 = 0 := by rw [c1.2.2 33 (by omega) (by omega)]; exact h33
  have n34 : zcn τ 34 = 0 := by rw [c1.2.2 34 (by omega) (by omega)]; exact h34
  have n8 : 0 < zcn τ 8 := by rw [c1.2.2 8 (by omega) (by omega)]; exact h8
  have z2 : zZ0 (zsr (zmna τ 33 34 4) 8 0 1 (33, zcn τ 33)) := (z1.mna (c := 33) (c2 := 34) (n := 4) (by decide) (by decide) (by decide)).sr n8
  have o2 : zOnly (fun a b _ => (a = 8 ∧ b = 0) ∨ (31 ≤ a ∧ a ≤ 34)) σ (zsr (zmna τ 33 34 4) 8 0 1 (33, zcn τ 33)) := o1.tr (((zZ0.mon z1 (c := 33) (c2 := 34) (n := 4) (by decide) (by decide)).mono (fun a b e q => by omega)).tr (zOnly.sr (Or.inl ⟨rfl, rfl⟩)))
  have c2 : zcn (zsr (zmna τ 33 34 4) 8 0 1 (33, zcn τ 33)) 33 = 1 ∧ zcn (zsr (zmna τ 33 34 4) 8 0 1 (33, zcn τ 33)) 34 = 4 ∧ ∀ c, c ≠ 33 → c ≠ 34 → zcn (zsr (zmna τ 33 34 4) 8 0 1 (33, zcn τ 33)) c = zcn τ c := by
    refine ⟨by show zcn τ 33 + 1 = 1; rw [n33], by show zcn τ 34 + 4 = 4; rw [n34], fun c q1 q2 => ?_⟩
    rw [zcn_sr, zcn_mna, if_neg q1, if_neg q2]
  have r2 : zgr (zsr (zmna τ 33 34 4) 8 0 1 (33, zcn τ 33)) 8 0 1 = (33, 0) ∧ (∀ e, e < 4 → zgr (zsr (zmna τ 33 34 4) 8 0 1 (33, zcn τ 33)) 33 0 e = (34, e)) ∧ zgr (zsr (zmna τ 33 34 4) 8 0 1 (33, zcn τ 33)) 8 0 0 = (31, 0) ∧ ∀ e, e < 99 → zgr (zsr (zmna τ 33 34 4) 8 0 1 (33, zcn τ 33)) 31 0 e = (32, e) := by
    refine ⟨by show (33, zcn τ 33) = (33, 0); rw [n33], fun e he => ?_, r1.1, r1.2⟩
    show zgr (zmna τ 33 34 4) 33 0 e = _
    rw [zgr_mna, if_pos ⟨rfl, (show 0 = zcn τ 33 from n33.symm)⟩, if_pos he]
    show (34, zcn τ 34 + e) = _
    rw [n34, Nat.zero_add]
  have l2 : ∀ a b e, a = 32 ∨ a = 34 → zgl (zsr (zmna τ 33 34 4) 8 0 1 (33, zcn τ 33)) a b e = 0 := fun a b e q => by
    show zgl (zmna τ 33 34 4) a b e = 0
    rw [z1.mgl (by decide)]
    exact l1 a b e q
  have c3 : ∀ c, c ≠ 31 → c ≠ 32 → c ≠ 33 → c ≠ 34 → zcn (zsr (zmna τ 33 34 4) 8 0 1 (33, zcn τ 33)) c = zcn σ c := fun c q1 q2 q3 q4 => by rw [c2.2.2 c q3 q4, c1.2.2 c q1 q2]
  have c4 : zcn (zsr (zmna τ 33 34 4) 8 0 1 (33, zcn τ 33)) 31 = 1 ∧ zcn (zsr (zmna τ 33 34 4) 8 0 1 (33, zcn τ 33)) 32 = 99 := ⟨by rw [c2.2.2 31 (by omega) (by omega)]; exact c1.1, by rw [c2.2.2 32 (by omega) (by omega)]; exact c1.2.1⟩
  generalize zsr (zmna τ 33 34 4) 8 0 1 (33, zcn τ 33) = υ at z2 o2 c2 r2 l2 c3 c4 ⊢
  refine L_X3_out r2.2.2.1 r2.1 r2.2.2.2 r2.2.1 (fun φ h => ?_) 64 0 (by omega) υ ⟨fun _ _ _ => rfl, fun _ _ _ => rfl, rfl, fun _ _ _ _ _ => rfl, fun r c hr hc => ?_, fun s c hs hc => ?_⟩
  · obtain ⟨a1, a2, a3, a4, a5, a6⟩ := h
    have cn : ∀ c, zcn φ c = zcn υ c := fun c => by unfold zcn; rw [a3]
    refine ⟨rfl, hK φ (fun a b e q1 q2 => ?_) (o2.tr (fun a b e hn => ⟨a1 a b e, a4 a b e (fun w => hn (by omega)) (fun w => hn (by omega)), a2 a b e⟩)) (fun c q1 q2 q3 q4 => by rw [cn, c3 c q1 q2 q3 q4]) (by rw [cn]; exact c4.1) (by rw [cn]; exact c4.2) (by rw [cn]; exact c2.1) (by rw [cn]; exact c2.2.1) (by rw [a2]; exact r2.2.2.1) (by rw [a2]; exact r2.1) (fun e he => by rw [a2]; exact r2.2.2.2 e he) (fun e he => by rw [a2]; exact r2.2.1 e he) ⟨fun r c hr hc => ?_, fun s c hs hc => ?_⟩⟩
    · rw [cn] at q2
      obtain ⟨g1, g2, g3⟩ := z2 a b e q1 q2
      refine ⟨by rw [a1]; exact g1, ?_, by rw [a2]; exact g3⟩
      rw [a4 a b e (fun w => by rw [w.1, c4.2] at q2; omega) (fun w => by rw [w.1, c2.2.1] at q2; omega)]
      exact g2
    · rw [a5 r c hr hc]
      exact zset_cong (fun i hi => by unfold gF1; rw [if_pos hc])
    · rw [a6 s c hs hc]
      exact zset_cong (fun i hi => by unfold gS1; rw [if_pos hc])
  · rw [l2 32 r c (Or.inl rfl)]
    refine (zset_0.mpr (fun i hi => ?_)).symm
    unfold gF1
    rw [if_neg (Nat.not_lt_zero c), decide_eq_false (Nat.not_lt_zero i)]
    simp
  · rw [l2 34 s c (Or.inr rfl)]
    refine (zset_0.mpr (fun i hi => ?_)).symm
    unfold gS1
    rw [if_neg (Nat.not_lt_zero c), decide_eq_false (Nat.not_lt_zero i)]
    simp
end zGd2
