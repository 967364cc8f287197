/-! rules of the judgement zE, an instruction each (printed by wip/whole/gen_rules.py) -/
def zlshl (x : Int64) (y : Int32) : Int64 := x <<< (y.toInt64 &&& 63)
def zlshr (x : Int64) (y : Int32) : Int64 := x >>> (y.toInt64 &&& 63)
def zlushr (x : Int64) (y : Int32) : Int64 := (x.toUInt64 >>> (y.toInt64.toUInt64 &&& Int64.toUInt64 63)).toInt64
def ziushr (x y : Int32) : Int32 := (x.toUInt32 >>> (y.toUInt32 &&& Int32.toUInt32 31)).toInt32
def zishl (x y : Int32) : Int32 := x <<< (y &&& 31)
def zishr (x y : Int32) : Int32 := x >>> (y &&& 31)
section zR1
variable {ph : Bool} {d kc ks : Nat} {M : zMth} {pc : Nat} {L : List (Option zV)} {S : List zV} {σ : zSt} {Q : Option zV → zSt → Prop}
theorem r_iconst {n : Int} {v : Int32} (hd : decode M.2.1 pc = .ok (.iconst n, 1)) (hv : Int32.ofInt n = v) (k : zE ph d kc ks M (pc + 1) L (.inl v :: S) σ Q) : zE ph d kc ks M pc L S σ Q :=
  zE.pure (S1 := S) (S2 := .inl v :: S) (fun h => by simp only [List.forall_mem_cons]; exact ⟨trivial, h⟩) (fun p l e R s m args below meth c H locs cells slots ls Zp hx hb hown hts hL hV k =>  lv_iconst hx hb hd hv k) k
theorem r_bipush {n : Int} {v : Int32} (hd : decode M.2.1 pc = .ok (.bipush n, 2)) (hv : (Int8.ofInt n).toInt32 = v) (k : zE ph d kc ks M (pc + 2) L (.inl v :: S) σ Q) : zE ph d kc ks M pc L S σ Q :=
  zE.pure (S1 := S) (S2 := .inl v :: S) (fun h => by simp only [List.forall_mem_cons]; exact ⟨trivial, h⟩) (fun p l e R s m args below meth c H locs cells slots ls Zp hx hb hown hts hL hV k =>  lv_bipush hx hb hd hv k) k
theorem r_sipush {n : Int} {v : Int32} (hd : decode M.2.1 pc = .ok (.sipush n, 3)) (hv : (Int16.ofInt n).toInt32 = v) (k : zE ph d kc ks M (pc + 3) L (.inl v :: S) σ Q) : zE ph d kc ks M pc L S σ Q :=
  zE.pure (S1 := S) (S2 := .inl v :: S) (fun h => by simp only [List.forall_mem_cons]; exact ⟨trivial, h⟩) (fun p l e R s m args below meth c H locs cells slots ls Zp hx hb hown hts hL hV k =>  lv_sipush hx hb hd hv k) k
theorem r_lconst {n : Fin 2} {v : Int64} (hd : decode M.2.1 pc = .ok (.lconst n, 1)) (hv : Int64.ofNat (n : Nat) = v) (k : zE ph d kc ks M (pc + 1) L (.inr (.inl v) :: S) σ Q) : zE ph d kc ks M pc L S σ Q :=
  zE.pure (S1 := S) (S2 := .inr (.inl v) :: S) (fun h => by simp only [List.forall_mem_cons]; exact ⟨trivial, h⟩) (fun p l e R s m args below meth c H locs cells slots ls Zp hx hb hown hts hL hV k =>  lv_lconst hx hb hd hv k) k
theorem r_ldc {i : Nat} {v : Int32} (hw : Cond.constant M.1.cls i v ∈ zT) (hd : decode M.2.1 pc = .ok (.ldc i, 2)) (k : zE ph d kc ks M (pc + 2) L (.inl v :: S) σ Q) : zE ph d kc ks M pc L S σ Q :=
  zE.pure (S1 := S) (S2 := .inl v :: S) (fun h => by simp only [List.forall_mem_cons]; exact ⟨trivial, h⟩) (fun p l e R s m args below meth c H locs cells slots ls Zp hx hb hown hts hL hV k =>  lv_ldc hx hb hown (hts _ hw) hd k) k
theorem r_ldcw {i : Nat} {v : Int32} (hw : Cond.constant M.1.cls i v ∈ zT) (hd : decode M.2.1 pc = .ok (.ldc_w i, 3)) (k : zE ph d kc ks M (pc + 3) L (.inl v :: S) σ Q) : zE ph d kc ks M pc L S σ Q :=
  zE.pure (S1 := S) (S2 := .inl v :: S) (fun h => by simp only [List.forall_mem_cons]; exact ⟨trivial, h⟩) (fun p l e R s m args below meth c H locs cells slots ls Zp hx hb hown hts hL hV k =>  lv_ldcw hx hb hown (hts _ hw) hd k) k
theorem r_ldc2 {i : Nat} {v : Int64} (hw : Cond.constantLong M.1.cls i v ∈ zT) (hd : decode M.2.1 pc = .ok (.ldc2_w i, 3)) (k : zE ph d kc ks M (pc + 3) L (.inr (.inl v) :: S) σ Q) : zE ph d kc ks M pc L S σ Q :=
  zE.pure (S1 := S) (S2 := .inr (.inl v) :: S) (fun h => by simp only [List.forall_mem_cons]; exact ⟨trivial, h⟩) (fun p l e R s m args below meth c H locs cells slots ls Zp hx hb hown hts hL hV k =>  lv_ldc2 hx hb hown (hts _ hw) hd k) k
theorem r_null (hd : decode M.2.1 pc = .ok (.aconst_null, 1)) (k : zE ph d kc ks M (pc + 1) L (.inr (.inr (0, 0)) :: S) σ Q) : zE ph d kc ks M pc L S σ Q :=
  zE.pure (S1 := S) (S2 := .inr (.inr (0, 0)) :: S) (fun h => by simp only [List.forall_mem_cons]; exact ⟨Or.inl rfl, h⟩) (fun p l e R s m args below meth c H locs cells slots ls Zp hx hb hown hts hL hV k =>  lv_null hx hb hd k) k
theorem r_iadd {x y : Int32} (hd : decode M.2.1 pc = .ok (.iadd, 1)) (k : zE ph d kc ks M (pc + 1) L (.inl (x + y) :: S) σ Q) : zE ph d kc ks M pc L (.inl y :: .inl x :: S) σ Q :=
  zE.pure (S1 := .inl y :: .inl x :: S) (S2 := .inl (x + y) :: S) (fun h => by simp only [List.forall_mem_cons] at h ⊢; exact ⟨trivial, h.2.2⟩) (fun p l e R s m args below meth c H locs cells slots ls Zp hx hb hown hts hL hV k => lv_iadd hx hb hd k) k
theorem r_isub {x y : Int32} (hd : decode M.2.1 pc = .ok (.isub, 1)) (k : zE ph d kc ks M (pc + 1) L (.inl (x - y) :: S) σ Q) : zE ph d kc ks M pc L (.inl y :: .inl x :: S) σ Q :=
  zE.pure (S1 := .inl y :: .inl x :: S) (S2 := .inl (x - y) :: S) (fun h => by simp only [List.forall_mem_cons] at h ⊢; exact ⟨trivial, h.2.2⟩) (fun p l e R s m args below meth c H locs cells slots ls Zp hx hb hown hts hL hV k => lv_isub hx hb hd k) k
theorem r_imul {x y : Int32} (hd : decode M.2.1 pc = .ok (.imul, 1)) (k : zE ph d kc ks M (pc + 1) L (.inl (x * y) :: S) σ Q) : zE ph d kc ks M pc L (.inl y :: .inl x :: S) σ Q :=
  zE.pure (S1 := .inl y :: .inl x :: S) (S2 := .inl (x * y) :: S) (fun h => by simp only [List.forall_mem_cons] at h ⊢; exact ⟨trivial, h.2.2⟩) (fun p l e R s m args below meth c H locs cells slots ls Zp hx hb hown hts hL hV k => lv_imul hx hb hd k) k
theorem r_iand {x y : Int32} (hd : decode M.2.1 pc = .ok (.iand, 1)) (k : zE ph d kc ks M (pc + 1) L (.inl (x &&& y) :: S) σ Q) : zE ph d kc ks M pc L (.inl y :: .inl x :: S) σ Q :=
  zE.pure (S1 := .inl y :: .inl x :: S) (S2 := .inl (x &&& y) :: S) (fun h => by simp only [List.forall_mem_cons] at h ⊢; exact ⟨trivial, h.2.2⟩) (fun p l e R s m args below meth c H locs cells slots ls Zp hx hb hown hts hL hV k => lv_iand hx hb hd k) k
theorem r_ior {x y : Int32} (hd : decode M.2.1 pc = .ok (.ior, 1)) (k : zE ph d kc ks M (pc + 1) L (.inl (x ||| y) :: S) σ Q) : zE ph d kc ks M pc L (.inl y :: .inl x :: S) σ Q :=
  zE.pure (S1 := .inl y :: .inl x :: S) (S2 := .inl (x ||| y) :: S) (fun h => by simp only [List.forall_mem_cons] at h ⊢; exact ⟨trivial, h.2.2⟩) (fun p l e R s m args below meth c H locs cells slots ls Zp hx hb hown hts hL hV k => lv_ior hx hb hd k) k
theorem r_ixor {x y : Int32} (hd : decode M.2.1 pc = .ok (.ixor, 1)) (k : zE ph d kc ks M (pc + 1) L (.inl (x ^^^ y) :: S) σ Q) : zE ph d kc ks M pc L (.inl y :: .inl x :: S) σ Q :=
  zE.pure (S1 := .inl y :: .inl x :: S) (S2 := .inl (x ^^^ y) :: S) (fun h => by simp only [List.forall_mem_cons] at h ⊢; exact ⟨trivial, h.2.2⟩) (fun p l e R s m args below meth c H locs cells slots ls Zp hx hb hown hts hL hV k => lv_ixor hx hb hd k) k
theorem r_ishl {x y : Int32} (hd : decode M.2.1 pc = .ok (.ishl, 1)) (k : zE ph d kc ks M (pc + 1) L (.inl (zishl x y) :: S) σ Q) : zE ph d kc ks M pc L (.inl y :: .inl x :: S) σ Q :=
  zE.pure (S1 := .inl y :: .inl x :: S) (S2 := .inl (zishl x y) :: S) (fun h => by simp only [List.forall_mem_cons] at h ⊢; exact ⟨trivial, h.2.2⟩) (fun p l e R s m args below meth c H locs cells slots ls Zp hx hb hown hts hL hV k => lv_ishl hx hb hd k) k
theorem r_ishr {x y : Int32} (hd : decode M.2.1 pc = .ok (.ishr, 1)) (k : zE ph d kc ks M (pc + 1) L (.inl (zishr x y) :: S) σ Q) : zE ph d kc ks M pc L (.inl y :: .inl x :: S) σ Q :=
  zE.pure (S1 := .inl y :: .inl x :: S) (S2 := .inl (zishr x y) :: S) (fun h => by simp only [List.forall_mem_cons] at h ⊢; exact ⟨trivial, h.2.2⟩) (fun p l e R s m args below meth c H locs cells slots ls Zp hx hb hown hts hL hV k => lv_ishr hx hb hd k) k
theorem r_idiv {x y : Int32} (hn : ¬ y = 0) (hd : decode M.2.1 pc = .ok (.idiv, 1)) (k : zE ph d kc ks M (pc + 1) L (.inl (x / y) :: S) σ Q) : zE ph d kc ks M pc L (.inl y :: .inl x :: S) σ Q :=
  zE.pure (S1 := .inl y :: .inl x :: S) (S2 := .inl (x / y) :: S) (fun h => by simp only [List.forall_mem_cons] at h ⊢; exact ⟨trivial, h.2.2⟩) (fun p l e R s m args below meth c H locs cells slots ls Zp hx hb hown hts hL hV k => lv_idiv hx hb hd hn k) k
theorem r_irem {x y : Int32} (hn : ¬ y = 0) (hd : decode M.2.1 pc = .ok (.irem, 1)) (k : zE ph d kc ks M (pc + 1) L (.inl (x % y) :: S) σ Q) : zE ph d kc ks M pc L (.inl y :: .inl x :: S) σ Q :=
  zE.pure (S1 := .inl y :: .inl x :: S) (S2 := .inl (x % y) :: S) (fun h => by simp only [List.forall_mem_cons] at h ⊢; exact ⟨trivial, h.2.2⟩) (fun p l e R s m args below meth c H locs cells slots ls Zp hx hb hown hts hL hV k =>  lv_irem hx hb hd hn (by rw [irem_eq_mod]; exact k)) k
theorem r_iushr {x y : Int32} (hd : decode M.2.1 pc = .ok (.iushr, 1)) (k : zE ph d kc ks M (pc + 1) L (.inl (ziushr x y) :: S) σ Q) : zE ph d kc ks M pc L (.inl y :: .inl x :: S) σ Q :=
  zE.pure (S1 := .inl y :: .inl x :: S) (S2 := .inl (ziushr x y) :: S) (fun h => by simp only [List.forall_mem_cons] at h ⊢; exact ⟨trivial, h.2.2⟩) (fun p l e R s m args below meth c H locs cells slots ls Zp hx hb hown hts hL hV k => lv_iushr hx hb hd rfl k) k
theorem r_ineg {x : Int32} (hd : decode M.2.1 pc = .ok (.ineg, 1)) (k : zE ph d kc ks M (pc + 1) L (.inl (-x) :: S) σ Q) : zE ph d kc ks M pc L (.inl x :: S) σ Q :=
  zE.pure (S1 := .inl x :: S) (S2 := .inl (-x) :: S) (fun h => by simp only [List.forall_mem_cons] at h ⊢; exact ⟨trivial, h.2⟩) (fun p l e R s m args below meth c H locs cells slots ls Zp hx hb hown hts hL hV k => lv_ineg hx hb hd k) k
theorem r_ladd {x y : Int64} (hd : decode M.2.1 pc = .ok (.ladd, 1)) (k : zE ph d kc ks M (pc + 1) L (.inr (.inl (x + y)) :: S) σ Q) : zE ph d kc ks M pc L (.inr (.inl y) :: .inr (.inl x) :: S) σ Q :=
  zE.pure (S1 := .inr (.inl y) :: .inr (.inl x) :: S) (S2 := .inr (.inl (x + y)) :: S) (fun h => by simp only [List.forall_mem_cons] at h ⊢; exact ⟨trivial, h.2.2⟩) (fun p l e R s m args below meth c H locs cells slots ls Zp hx hb hown hts hL hV k => lv_ladd hx hb hd k) k
theorem r_lsub {x y : Int64} (hd : decode M.2.1 pc = .ok (.lsub, 1)) (k : zE ph d kc ks M (pc + 1) L (.inr (.inl (x - y)) :: S) σ Q) : zE ph d kc ks M pc L (.inr (.inl y) :: .inr (.inl x) :: S) σ Q :=
  zE.pure (S1 := .inr (.inl y) :: .inr (.inl x) :: S) (S2 := .inr (.inl (x - y)) :: S) (fun h => by simp only [List.forall_mem_cons] at h ⊢; exact ⟨trivial, h.2.2⟩) (fun p l e R s m args below meth c H locs cells slots ls Zp hx hb hown hts hL hV k => lv_lsub hx hb hd k) k
theorem r_lmul {x y : Int64} (hd : decode M.2.1 pc = .ok (.lmul, 1)) (k : zE ph d kc ks M (pc + 1) L (.inr (.inl (x * y)) :: S) σ Q) : zE ph d kc ks M pc L (.inr (.inl y) :: .inr (.inl x) :: S) σ Q :=
  zE.pure (S1 := .inr (.inl y) :: .inr (.inl x) :: S) (S2 := .inr (.inl (x * y)) :: S) (fun h => by simp only [List.forall_mem_cons] at h ⊢; exact ⟨trivial, h.2.2⟩) (fun p l e R s m args below meth c H locs cells slots ls Zp hx hb hown hts hL hV k => lv_lmul hx hb hd k) k
theorem r_land {x y : Int64} (hd : decode M.2.1 pc = .ok (.land, 1)) (k : zE ph d kc ks M (pc + 1) L (.inr (.inl (x &&& y)) :: S) σ Q) : zE ph d kc ks M pc L (.inr (.inl y) :: .inr (.inl x) :: S) σ Q :=
  zE.pure (S1 := .inr (.inl y) :: .inr (.inl x) :: S) (S2 := .inr (.inl (x &&& y)) :: S) (fun h => by simp only [List.forall_mem_cons] at h ⊢; exact ⟨trivial, h.2.2⟩) (fun p l e R s m args below meth c H locs cells slots ls Zp hx hb hown hts hL hV k => lv_land hx hb hd k) k
theorem r_lor {x y : Int64} (hd : decode M.2.1 pc = .ok (.lor, 1)) (k : zE ph d kc ks M (pc + 1) L (.inr (.inl (x ||| y)) :: S) σ Q) : zE ph d kc ks M pc L (.inr (.inl y) :: .inr (.inl x) :: S) σ Q :=
  zE.pure (S1 := .inr (.inl y) :: .inr (.inl x) :: S) (S2 := .inr (.inl (x ||| y)) :: S) (fun h => by simp only [List.forall_mem_cons] at h ⊢; exact ⟨trivial, h.2.2⟩) (fun p l e R s m args below meth c H locs cells slots ls Zp hx hb hown hts hL hV k => lv_lor hx hb hd k) k
theorem r_lxor {x y : Int64} (hd : decode M.2.1 pc = .ok (.lxor, 1)) (k : zE ph d kc ks M (pc + 1) L (.inr (.inl (x ^^^ y)) :: S) σ Q) : zE ph d kc ks M pc L (.inr (.inl y) :: .inr (.inl x) :: S) σ Q :=
  zE.pure (S1 := .inr (.inl y) :: .inr (.inl x) :: S) (S2 := .inr (.inl (x ^^^ y)) :: S) (fun h => by simp only [List.forall_mem_cons] at h ⊢; exact ⟨trivial, h.2.2⟩) (fun p l e R s m args below meth c H locs cells slots ls Zp hx hb hown hts hL hV k => lv_lxor hx hb hd k) k
theorem r_lneg {x : Int64} (hd : decode M.2.1 pc = .ok (.lneg, 1)) (k : zE ph d kc ks M (pc + 1) L (.inr (.inl (-x)) :: S) σ Q) : zE ph d kc ks M pc L (.inr (.inl x) :: S) σ Q :=
  zE.pure (S1 := .inr (.inl x) :: S) (S2 := .inr (.inl (-x)) :: S) (fun h => by simp only [List.forall_mem_cons] at h ⊢; exact ⟨trivial, h.2⟩) (fun p l e R s m args below meth c H locs cells slots ls Zp hx hb hown hts hL hV k => lv_lneg hx hb hd k) k
theorem r_lshl {x : Int64} {y : Int32} (hd : decode M.2.1 pc = .ok (.lshl, 1)) (k : zE ph d kc ks M (pc + 1) L (.inr (.inl (zlshl x y)) :: S) σ Q) : zE ph d kc ks M pc L (.inl y :: .inr (.inl x) :: S) σ Q :=
  zE.pure (S1 := .inl y :: .inr (.inl x) :: S) (S2 := .inr (.inl (zlshl x y)) :: S) (fun h => by simp only [List.forall_mem_cons] at h ⊢; exact ⟨trivial, h.2.2⟩) (fun p l e R s m args below meth c H locs cells slots ls Zp hx hb hown hts hL hV k => lv_lshl hx hb hd rfl k) k
theorem r_lshr {x : Int64} {y : Int32} (hd : decode M.2.1 pc = .ok (.lshr, 1)) (k : zE ph d kc ks M (pc + 1) L (.inr (.inl (zlshr x y)) :: S) σ Q) : zE ph d kc ks M pc L (.inl y :: .inr (.inl x) :: S) σ Q :=
  zE.pure (S1 := .inl y :: .inr (.inl x) :: S) (S2 := .inr (.inl (zlshr x y)) :: S) (fun h => by simp only [List.forall_mem_cons] at h ⊢; exact ⟨trivial, h.2.2⟩) (fun p l e R s m args below meth c H locs cells slots ls Zp hx hb hown hts hL hV k => lv_lshr hx hb hd rfl k) k
theorem r_lushr {x : Int64} {y : Int32} (hd : decode M.2.1 pc = .ok (.lushr, 1)) (k : zE ph d kc ks M (pc + 1) L (.inr (.inl (zlushr x y)) :: S) σ Q) : zE ph d kc ks M pc L (.inl y :: .inr (.inl x) :: S) σ Q :=
  zE.pure (S1 := .inl y :: .inr (.inl x) :: S) (S2 := .inr (.inl (zlushr x y)) :: S) (fun h => by simp only [List.forall_mem_cons] at h ⊢; exact ⟨trivial, h.2.2⟩) (fun p l e R s m args below meth c H locs cells slots ls Zp hx hb hown hts hL hV k => lv_lushr hx hb hd rfl k) k
theorem r_lcmp {x y : Int64} (hd : decode M.2.1 pc = .ok (.lcmp, 1)) (k : zE ph d kc ks M (pc + 1) L (.inl (lg_cmp x y) :: S) σ Q) : zE ph d kc ks M pc L (.inr (.inl y) :: .inr (.inl x) :: S) σ Q :=
  zE.pure (S1 := .inr (.inl y) :: .inr (.inl x) :: S) (S2 := .inl (lg_cmp x y) :: S) (fun h => by simp only [List.forall_mem_cons] at h ⊢; exact ⟨trivial, h.2.2⟩) (fun p l e R s m args below meth c H locs cells slots ls Zp hx hb hown hts hL hV k => W.lcmp hx hb hd k) k
theorem r_i2l {x : Int32} (hd : decode M.2.1 pc = .ok (.i2l, 1)) (k : zE ph d kc ks M (pc + 1) L (.inr (.inl x.toInt64) :: S) σ Q) : zE ph d kc ks M pc L (.inl x :: S) σ Q :=
  zE.pure (S1 := .inl x :: S) (S2 := .inr (.inl x.toInt64) :: S) (fun h => by simp only [List.forall_mem_cons] at h ⊢; exact ⟨trivial, h.2⟩) (fun p l e R s m args below meth c H locs cells slots ls Zp hx hb hown hts hL hV k => lv_i2l hx hb hd rfl k) k
theorem r_l2i {x : Int64} (hd : decode M.2.1 pc = .ok (.l2i, 1)) (k : zE ph d kc ks M (pc + 1) L (.inl x.toInt32 :: S) σ Q) : zE ph d kc ks M pc L (.inr (.inl x) :: S) σ Q :=
  zE.pure (S1 := .inr (.inl x) :: S) (S2 := .inl x.toInt32 :: S) (fun h => by simp only [List.forall_mem_cons] at h ⊢; exact ⟨trivial, h.2⟩) (fun p l e R s m args below meth c H locs cells slots ls Zp hx hb hown hts hL hV k => lv_l2i hx hb hd rfl k) k
theorem r_i2b {x : Int32} (hd : decode M.2.1 pc = .ok (.i2b, 1)) (k : zE ph d kc ks M (pc + 1) L (.inl x.toInt8.toInt32 :: S) σ Q) : zE ph d kc ks M pc L (.inl x :: S) σ Q :=
  zE.pure (S1 := .inl x :: S) (S2 := .inl x.toInt8.toInt32 :: S) (fun h => by simp only [List.forall_mem_cons] at h ⊢; exact ⟨trivial, h.2⟩) (fun p l e R s m args below meth c H locs cells slots ls Zp hx hb hown hts hL hV k => lv_i2b hx hb hd rfl k) k
theorem r_i2s {x : Int32} (hd : decode M.2.1 pc = .ok (.i2s, 1)) (k : zE ph d kc ks M (pc + 1) L (.inl x.toInt16.toInt32 :: S) σ Q) : zE ph d kc ks M pc L (.inl x :: S) σ Q :=
  zE.pure (S1 := .inl x :: S) (S2 := .inl x.toInt16.toInt32 :: S) (fun h => by simp only [List.forall_mem_cons] at h ⊢; exact ⟨trivial, h.2⟩) (fun p l e R s m args below meth c H locs cells slots ls Zp hx hb hown hts hL hV k => lv_i2s hx hb hd rfl k) k
theorem r_dup {a : zV} (h1 : zcat a = 1) (hd : decode M.2.1 pc = .ok (.dup, 1)) (k : zE ph d kc ks M (pc + 1) L (a :: a :: S) σ Q) : zE ph d kc ks M pc L (a :: S) σ Q :=
  zE.pure (S1 := a :: S) (S2 := a :: a :: S) (fun h => by simp only [List.forall_mem_cons] at h ⊢; exact ⟨h.1, h.1, h.2⟩) (fun p l e R s m args below meth c H locs cells slots ls Zp hx hb hown hts hL hV k => lv_dup hx hb hd (by rw [zc_cat]; exact h1) k) k
theorem r_dup_x1 {a b : zV} (h1 : zcat a = 1) (h2 : zcat b = 1) (hd : decode M.2.1 pc = .ok (.dup_x1, 1)) (k : zE ph d kc ks M (pc + 1) L (a :: b :: a :: S) σ Q) : zE ph d kc ks M pc L (a :: b :: S) σ Q :=
  zE.pure (S1 := a :: b :: S) (S2 := a :: b :: a :: S) (fun h => by simp only [List.forall_mem_cons] at h ⊢; exact ⟨h.1, h.2.1, h.1, h.2.2⟩) (fun p l e R s m args below meth c H locs cells slots ls Zp hx hb hown hts hL hV k => lv_dup_x1 hx hb hd (by rw [zc_cat]; exact h1) (by rw [zc_cat]; exact h2) k) k
theorem r_dup2_11 {a b : zV} (h1 : zcat a = 1) (h2 : zcat b = 1) (hd : decode M.2.1 pc = .ok (.dup2, 1)) (k : zE ph d kc ks M (pc + 1) L (a :: b :: a :: b :: S) σ Q) : zE ph d kc ks M pc L (a :: b :: S) σ Q :=
  zE.pure (S1 := a :: b :: S) (S2 := a :: b :: a :: b :: S) (fun h => by simp only [List.forall_mem_cons] at h ⊢; exact ⟨h.1, h.2.1, h.1, h.2⟩) (fun p l e R s m args below meth c H locs cells slots ls Zp hx hb hown hts hL hV k => lv_dup2_11 hx hb hd (by rw [zc_cat]; exact h1) (by rw [zc_cat]; exact h2) k) k
theorem r_dup2_2 {a : zV} (h1 : zcat a = 2) (hd : decode M.2.1 pc = .ok (.dup2, 1)) (k : zE ph d kc ks M (pc + 1) L (a :: a :: S) σ Q) : zE ph d kc ks M pc L (a :: S) σ Q :=
  zE.pure (S1 := a :: S) (S2 := a :: a :: S) (fun h => by simp only [List.forall_mem_cons] at h ⊢; exact ⟨h.1, h.1, h.2⟩) (fun p l e R s m args below meth c H locs cells slots ls Zp hx hb hown hts hL hV k => lv_dup2_2 hx hb hd (by rw [zc_cat]; exact h1) k) k
theorem r_pop {a : zV} (h1 : zcat a = 1) (hd : decode M.2.1 pc = .ok (.pop, 1)) (k : zE ph d kc ks M (pc + 1) L (S) σ Q) : zE ph d kc ks M pc L (a :: S) σ Q :=
  zE.pure (S1 := a :: S) (S2 := S) (fun h => by simp only [List.forall_mem_cons] at h; exact h.2) (fun p l e R s m args below meth c H locs cells slots ls Zp hx hb hown hts hL hV k => lv_pop hx hb hd (by rw [zc_cat]; exact h1) k) k
theorem r_icmp_eq {x y : Int32} {off : Int} {tgt : Nat} (hd : decode M.2.1 pc = .ok (.if_icmp .eq off, 3)) (ht : (pc : Int) + off = (tgt : Int)) (kt : x = y → zE ph d kc ks M tgt L S σ Q) (kf : ¬ (x = y) → zE ph d kc ks M (pc + 3) L S σ Q) : zE ph d kc ks M pc L (.inl y :: .inl x :: S) σ Q := by
  by_cases hP : x = y
  · exact zE.pure (S1 := .inl y :: .inl x :: S) (S2 := S) (fun h => by simp only [List.forall_mem_cons] at h; exact h.2.2) (fun p l e R s m args below meth c H locs cells slots ls Zp hx hb hown hts hL hV k => lv_icmp_eq hx hb hd ht (fun _ => k) (fun q => absurd hP q)) (kt hP)
  · exact zE.pure (S1 := .inl y :: .inl x :: S) (S2 := S) (fun h => by simp only [List.forall_mem_cons] at h; exact h.2.2) (fun p l e R s m args below meth c H locs cells slots ls Zp hx hb hown hts hL hV k => lv_icmp_eq hx hb hd ht (fun q => absurd q hP) (fun _ => k)) (kf hP)
theorem r_if_eq {x : Int32} {off : Int} {tgt : Nat} (hd : decode M.2.1 pc = .ok (.ifCond .eq off, 3)) (ht : (pc : Int) + off = (tgt : Int)) (kt : x = 0 → zE ph d kc ks M tgt L S σ Q) (kf : ¬ (x = 0) → zE ph d kc ks M (pc + 3) L S σ Q) : zE ph d kc ks M pc L (.inl x :: S) σ Q := by
  by_cases hP : x = 0
  · exact zE.pure (S1 := .inl x :: S) (S2 := S) (fun h => by simp only [List.forall_mem_cons] at h; exact h.2) (fun p l e R s m args below meth c H locs cells slots ls Zp hx hb hown hts hL hV k => lv_if_eq hx hb hd ht (fun _ => k) (fun q => absurd hP q)) (kt hP)
  · exact zE.pure (S1 := .inl x :: S) (S2 := S) (fun h => by simp only [List.forall_mem_cons] at h; exact h.2) (fun p l e R s m args below meth c H locs cells slots ls Zp hx hb hown hts hL hV k => lv_if_eq hx hb hd ht (fun q => absurd q hP) (fun _ => k)) (kf hP)
theorem r_icmp_ne {x y : Int32} {off : Int} {tgt : Nat} (hd : decode M.2.1 pc = .ok (.if_icmp .ne off, 3)) (ht : (pc : Int) + off = (tgt : Int)) (kt : ¬ x = y → zE ph d kc ks M tgt L S σ Q) (kf : x = y → zE ph d kc ks M (pc + 3) L S σ Q) : zE ph d kc ks M pc L (.inl y :: .inl x :: S) σ Q := by
  by_cases hP : x = y
  · exact zE.pure (S1 := .inl y :: .inl x :: S) (S2 := S) (fun h => by simp only [List.forall_mem_cons] at h; exact h.2.2) (fun p l e R s m args below meth c H locs cells slots ls Zp hx hb hown hts hL hV k => lv_icmp_ne hx hb hd ht (fun q => absurd hP q) (fun _ => k)) (kf hP)
  · exact zE.pure (S1 := .inl y :: .inl x :: S) (S2 := S) (fun h => by simp only [List.forall_mem_cons] at h; exact h.2.2) (fun p l e R s m args below meth c H locs cells slots ls Zp hx hb hown hts hL hV k => lv_icmp_ne hx hb hd ht (fun _ => k) (fun q => absurd q hP)) (kt hP)
theorem r_if_ne {x : Int32} {off : Int} {tgt : Nat} (hd : decode M.2.1 pc = .ok (.ifCond .ne off, 3)) (ht : (pc : Int) + off = (tgt : Int)) (kt : ¬ x = 0 → zE ph d kc ks M tgt L S σ Q) (kf : x = 0 → zE ph d kc ks M (pc + 3) L S σ Q) : zE ph d kc ks M pc L (.inl x :: S) σ Q := by
  by_cases hP : x = 0
  · exact zE.pure (S1 := .inl x :: S) (S2 := S) (fun h => by simp only [List.forall_mem_cons] at h; exact h.2) (fun p l e R s m args below meth c H locs cells slots ls Zp hx hb hown hts hL hV k => lv_if_ne hx hb hd ht (fun q => absurd hP q) (fun _ => k)) (kf hP)
  · exact zE.pure (S1 := .inl x :: S) (S2 := S) (fun h => by simp only [List.forall_mem_cons] at h; exact h.2) (fun p l e R s m args below meth c H locs cells slots ls Zp hx hb hown hts hL hV k => lv_if_ne hx hb hd ht (fun _ => k) (fun q => absurd q hP)) (kt hP)
theorem r_icmp_lt {x y : Int32} {off : Int} {tgt : Nat} (hd : decode M.2.1 pc = .ok (.if_icmp .lt off, 3)) (ht : (pc : Int) + off = (tgt : Int)) (kt : x < y → zE ph d kc ks M tgt L S σ Q) (kf : ¬ (x < y) → zE ph d kc ks M (pc + 3) L S σ Q) : zE ph d kc ks M pc L (.inl y :: .inl x :: S) σ Q := by
  by_cases hP : x < y
  · exact zE.pure (S1 := .inl y :: .inl x :: S) (S2 := S) (fun h => by simp only [List.forall_mem_cons] at h; exact h.2.2) (fun p l e R s m args below meth c H locs cells slots ls Zp hx hb hown hts hL hV k => lv_icmp_lt hx hb hd ht (fun _ => k) (fun q => absurd hP q)) (kt hP)
  · exact zE.pure (S1 := .inl y :: .inl x :: S) (S2 := S) (fun h => by simp only [List.forall_mem_cons] at h; exact h.2.2) (fun p l e R s m args below meth c H locs cells slots ls Zp hx hb hown hts hL hV k => lv_icmp_lt hx hb hd ht (fun q => absurd q hP) (fun _ => k)) (kf hP)
theorem r_if_lt {x : Int32} {off : Int} {tgt : Nat} (hd : decode M.2.1 pc = .ok (.ifCond .lt off, 3)) (ht : (pc : Int) + off = (tgt : Int)) (kt : x < 0 → zE ph d kc ks M tgt L S σ Q) (kf : ¬ (x < 0) → zE ph d kc ks M (pc + 3) L S σ Q) : zE ph d kc ks M pc L (.inl x :: S) σ Q := by
  by_cases hP : x < 0
  · exact zE.pure (S1 := .inl x :: S) (S2 := S) (fun h => by simp only [List.forall_mem_cons] at h; exact h.2) (fun p l e R s m args below meth c H locs cells slots ls Zp hx hb hown hts hL hV k => lv_if_lt hx hb hd ht (fun _ => k) (fun q => absurd hP q)) (kt hP)
  · exact zE.pure (S1 := .inl x :: S) (S2 := S) (fun h => by simp only [List.forall_mem_cons] at h; exact h.2) (fun p l e R s m args below meth c H locs cells slots ls Zp hx hb hown hts hL hV k => lv_if_lt hx hb hd ht (fun q => absurd q hP) (fun _ => k)) (kf hP)
theorem r_icmp_ge {x y : Int32} {off : Int} {tgt : Nat} (hd : decode M.2.1 pc = .ok (.if_icmp .ge off, 3)) (ht : (pc : Int) + off = (tgt : Int)) (kt : y ≤ x → zE ph d kc ks M tgt L S σ Q) (kf : ¬ (y ≤ x) → zE ph d kc ks M (pc + 3) L S σ Q) : zE ph d kc ks M pc L (.inl y :: .inl x :: S) σ Q := by
  by_cases hP : y ≤ x
  · exact zE.pure (S1 := .inl y :: .inl x :: S) (S2 := S) (fun h => by simp only [List.forall_mem_cons] at h; exact h.2.2) (fun p l e R s m args below meth c H locs cells slots ls Zp hx hb hown hts hL hV k => lv_icmp_ge hx hb hd ht (fun _ => k) (fun q => absurd hP q)) (kt hP)
  · exact zE.pure (S1 := .inl y :: .inl x :: S) (S2 := S) (fun h => by simp only [List.forall_mem_cons] at h; exact h.2.2) (fun p l e R s m args below meth c H locs cells slots ls Zp hx hb hown hts hL hV k => lv_icmp_ge hx hb hd ht (fun q => absurd q hP) (fun _ => k)) (kf hP)
theorem r_if_ge {x : Int32} {off : Int} {tgt : Nat} (hd : decode M.2.1 pc = .ok (.ifCond .ge off, 3)) (ht : (pc : Int) + off = (tgt : Int)) (kt : 0 ≤ x → zE ph d kc ks M tgt L S σ Q) (kf : ¬ (0 ≤ x) → zE ph d kc ks M (pc + 3) L S σ Q) : zE ph d kc ks M pc L (.inl x :: S) σ Q := by
  by_cases hP : 0 ≤ x
  · exact zE.pure (S1 := .inl x :: S) (S2 := S) (fun h => by simp only [List.forall_mem_cons] at h; exact h.2) (fun p l e R s m args below meth c H locs cells slots ls Zp hx hb hown hts hL hV k => lv_if_ge hx hb hd ht (fun _ => k) (fun q => absurd hP q)) (kt hP)
  · exact zE.pure (S1 := .inl x :: S) (S2 := S) (fun h => by simp only [List.forall_mem_cons] at h; exact h.2) (fun p l e R s m args below meth c H locs cells slots ls Zp hx hb hown hts hL hV k => lv_if_ge hx hb hd ht (fun q => absurd q hP) (fun _ => k)) (kf hP)
theorem r_icmp_gt {x y : Int32} {off : Int} {tgt : Nat} (hd : decode M.2.1 pc = .ok (.if_icmp .gt off, 3)) (ht : (pc : Int) + off = (tgt : Int)) (kt : y < x → zE ph d kc ks M tgt L S σ Q) (kf : ¬ (y < x) → zE ph d kc ks M (pc + 3) L S σ Q) : zE ph d kc ks M pc L (.inl y :: .inl x :: S) σ Q := by
  by_cases hP : y < x
  · exact zE.pure (S1 := .inl y :: .inl x :: S) (S2 := S) (fun h => by simp only [List.forall_mem_cons] at h; exact h.2.2) (fun p l e R s m args below meth c H locs cells slots ls Zp hx hb hown hts hL hV k => lv_icmp_gt hx hb hd ht (fun _ => k) (fun q => absurd hP q)) (kt hP)
  · exact zE.pure (S1 := .inl y :: .inl x :: S) (S2 := S) (fun h => by simp only [List.forall_mem_cons] at h; exact h.2.2) (fun p l e R s m args below meth c H locs cells slots ls Zp hx hb hown hts hL hV k => lv_icmp_gt hx hb hd ht (fun q => absurd q hP) (fun _ => k)) (kf hP)
theorem r_if_gt {x : Int32} {off : Int} {tgt : Nat} (hd : decode M.2.1 pc = .ok (.ifCond .gt off, 3)) (ht : (pc : Int) + off = (tgt : Int)) (kt : 0 < x → zE ph d kc ks M tgt L S σ Q) (kf : ¬ (0 < x) → zE ph d kc ks M (pc + 3) L S σ Q) : zE ph d kc ks M pc L (.inl x :: S) σ Q := by
  by_cases hP : 0 < x
  · exact zE.pure (S1 := .inl x :: S) (S2 := S) (fun h => by simp only [List.forall_mem_cons] at h; exact h.2) (fun p l e R s m args below meth c H locs cells slots ls Zp hx hb hown hts hL hV k => lv_if_gt hx hb hd ht (fun _ => k) (fun q => absurd hP q)) (kt hP)
  · exact zE.pure (S1 := .inl x :: S) (S2 := S) (fun h => by simp only [List.forall_mem_cons] at h; exact h.2) (fun p l e R s m args below meth c H locs cells slots ls Zp hx hb hown hts hL hV k => lv_if_gt hx hb hd ht (fun q => absurd q hP) (fun _ => k)) (kf hP)
theorem r_icmp_le {x y : Int32} {off : Int} {tgt : Nat} (hd : decode M.2.1 pc = .ok (.if_icmp .le off, 3)) (ht : (pc : Int) + off = (tgt : Int)) (kt : x ≤ y → zE ph d kc ks M tgt L S σ Q) (kf : ¬ (x ≤ y) → zE ph d kc ks M (pc + 3) L S σ Q) : zE ph d kc ks M pc L (.inl y :: .inl x :: S) σ Q := by
  by_cases hP : x ≤ y
  · exact zE.pure (S1 := .inl y :: .inl x :: S) (S2 := S) (fun h => by simp only [List.forall_mem_cons] at h; exact h.2.2) (fun p l e R s m args below meth c H locs cells slots ls Zp hx hb hown hts hL hV k => lv_icmp_le hx hb hd ht (fun _ => k) (fun q => absurd hP q)) (kt hP)
  · exact zE.pure (S1 := .inl y :: .inl x :: S) (S2 := S) (fun h => by simp only [List.forall_mem_cons] at h; exact h.2.2) (fun p l e R s m args below meth c H locs cells slots ls Zp hx hb hown hts hL hV k => lv_icmp_le hx hb hd ht (fun q => absurd q hP) (fun _ => k)) (kf hP)
theorem r_if_le {x : Int32} {off : Int} {tgt : Nat} (hd : decode M.2.1 pc = .ok (.ifCond .le off, 3)) (ht : (pc : Int) + off = (tgt : Int)) (kt : x ≤ 0 → zE ph d kc ks M tgt L S σ Q) (kf : ¬ (x ≤ 0) → zE ph d kc ks M (pc + 3) L S σ Q) : zE ph d kc ks M pc L (.inl x :: S) σ Q := by
  by_cases hP : x ≤ 0
  · exact zE.pure (S1 := .inl x :: S) (S2 := S) (fun h => by simp only [List.forall_mem_cons] at h; exact h.2) (fun p l e R s m args below meth c H locs cells slots ls Zp hx hb hown hts hL hV k => lv_if_le hx hb hd ht (fun _ => k) (fun q => absurd hP q)) (kt hP)
  · exact zE.pure (S1 := .inl x :: S) (S2 := S) (fun h => by simp only [List.forall_mem_cons] at h; exact h.2) (fun p l e R s m args below meth c H locs cells slots ls Zp hx hb hown hts hL hV k => lv_if_le hx hb hd ht (fun q => absurd q hP) (fun _ => k)) (kf hP)
theorem r_goto {off : Int} {tgt : Nat} (hd : decode M.2.1 pc = .ok (.goto off, 3)) (ht : (pc : Int) + off = (tgt : Int)) (k : zE ph d kc ks M tgt L S σ Q) : zE ph d kc ks M pc L S σ Q :=
  zE.pure (S1 := S) (S2 := S) (fun h => h) (fun p l e R s m args below meth c H locs cells slots ls Zp hx hb hown hts hL hV k => lv_goto hx hb hd ht k) k
theorem r_tableOut {dflt lo hi : Int} {offs : Array Int} {len : Nat} {x : Int32} {tgt : Nat} (hd : decode M.2.1 pc = .ok (.tableswitch dflt lo hi offs, len)) (h : x.toInt < lo ∨ hi < x.toInt) (ht : (pc : Int) + dflt = (tgt : Int)) (k : zE ph d kc ks M tgt L S σ Q) : zE ph d kc ks M pc L (.inl x :: S) σ Q :=
  zE.pure (S1 := .inl x :: S) (S2 := S) (fun h => by simp only [List.forall_mem_cons] at h; exact h.2) (fun p l e R s m args below meth c H locs cells slots ls Zp hx hb hown hts hL hV k => lv_tableOut hx hb hd h ht k) k
theorem r_tableIn {dflt lo hi : Int} {offs : Array Int} {len : Nat} {x : Int32} {off : Int} {tgt : Nat} (hd : decode M.2.1 pc = .ok (.tableswitch dflt lo hi offs, len)) (h1 : ¬ x.toInt < lo) (h2 : ¬ hi < x.toInt) (ho : offs[(x.toInt - lo).toNat]? = some off) (ht : (pc : Int) + off = (tgt : Int)) (k : zE ph d kc ks M tgt L S σ Q) : zE ph d kc ks M pc L (.inl x :: S) σ Q :=
  zE.pure (S1 := .inl x :: S) (S2 := S) (fun h => by simp only [List.forall_mem_cons] at h; exact h.2) (fun p l e R s m args below meth c H locs cells slots ls Zp hx hb hown hts hL hV k => lv_tableIn hx hb hd h1 h2 ho ht k) k
theorem r_lookup {dflt : Int} {ps : Array (Int × Int)} {len : Nat} {x : Int32} {off : Int} {tgt : Nat} (hd : decode M.2.1 pc = .ok (.lookupswitch dflt ps, len)) (hp : (ps.toList.zip (ps.toList.drop 1)).all (fun (a, next) => a.1 < next.1) = true) (ho : Op.lookupswitch.offset ps.toList dflt x.toInt = off) (ht : (pc : Int) + off = (tgt : Int)) (k : zE ph d kc ks M tgt L S σ Q) : zE ph d kc ks M pc L (.inl x :: S) σ Q :=
  zE.pure (S1 := .inl x :: S) (S2 := S) (fun h => by simp only [List.forall_mem_cons] at h; exact h.2) (fun p l e R s m args below meth c H locs cells slots ls Zp hx hb hown hts hL hV k => lv_lookup hx hb hd hp ho ht k) k
theorem r_iload_n {n : Fin 4} {i : Nat} {x : Int32} (hd : decode M.2.1 pc = .ok (.iload_n n, 1)) (hi : (n : Nat) = i) (hl : L[i]? = some (some (.inl x))) (k : zE ph d kc ks M (pc + 1) L (.inl x :: S) σ Q) : zE ph d kc ks M pc L S σ Q :=
  zE.pure (S1 := S) (S2 := .inl x :: S) (fun h => by simp only [List.forall_mem_cons]; exact ⟨trivial, h⟩) (fun p l e R s m args below meth c H locs cells slots ls Zp hx hb hown hts hL hV k => lv_iload_n hx hb hd hi (hL.2.2 _ _ hl).1 k) k
theorem r_iload {i : Nat} {x : Int32} (hd : decode M.2.1 pc = .ok (.iload i, 2)) (hl : L[i]? = some (some (.inl x))) (k : zE ph d kc ks M (pc + 2) L (.inl x :: S) σ Q) : zE ph d kc ks M pc L S σ Q :=
  zE.pure (S1 := S) (S2 := .inl x :: S) (fun h => by simp only [List.forall_mem_cons]; exact ⟨trivial, h⟩) (fun p l e R s m args below meth c H locs cells slots ls Zp hx hb hown hts hL hV k => lv_iload hx hb hd (hL.2.2 _ _ hl).1 k) k
theorem r_lload_n {n : Fin 4} {i : Nat} {x : Int64} (hd : decode M.2.1 pc = .ok (.lload_n n, 1)) (hi : (n : Nat) = i) (hl : L[i]? = some (some (.inr (.inl x)))) (k : zE ph d kc ks M (pc + 1) L (.inr (.inl x) :: S) σ Q) : zE ph d kc ks M pc L S σ Q :=
  zE.pure (S1 := S) (S2 := .inr (.inl x) :: S) (fun h => by simp only [List.forall_mem_cons]; exact ⟨trivial, h⟩) (fun p l e R s m args below meth c H locs cells slots ls Zp hx hb hown hts hL hV k => lv_lload_n hx hb hd hi (hL.2.2 _ _ hl).1 k) k
theorem r_lload {i : Nat} {x : Int64} (hd : decode M.2.1 pc = .ok (.lload i, 2)) (hl : L[i]? = some (some (.inr (.inl x)))) (k : zE ph d kc ks M (pc + 2) L (.inr (.inl x) :: S) σ Q) : zE ph d kc ks M pc L S σ Q :=
  zE.pure (S1 := S) (S2 := .inr (.inl x) :: S) (fun h => by simp only [List.forall_mem_cons]; exact ⟨trivial, h⟩) (fun p l e R s m args below meth c H locs cells slots ls Zp hx hb hown hts hL hV k => lv_lload hx hb hd (hL.2.2 _ _ hl).1 k) k
theorem r_aload_n {n : Fin 4} {i : Nat} {r : Nat × Nat} (hd : decode M.2.1 pc = .ok (.aload_n n, 1)) (hi : (n : Nat) = i) (hl : L[i]? = some (some (.inr (.inr r)))) (k : zE ph d kc ks M (pc + 1) L (.inr (.inr r) :: S) σ Q) : zE ph d kc ks M pc L S σ Q := by
  intro D acl z p l e R s m args below meth c H locs cells slots σe ls Zp mc ms hc h1 h2 h3 h4 h5 h6 hR hZ hS hX hL hV hQ
  have h := (hL.2.2 _ _ hl).1
  have hk := k D acl z p l e R s m args below meth c H locs cells slots σe ls Zp mc ms hc h1 h2 h3 h4 h5 h6 hR hZ hS hX hL (by simp only [List.forall_mem_cons]; exact ⟨(hL.2.2 _ _ hl).2, hV⟩) hQ
  have hc2 := hc.2.1
  rw [List.map_cons] at hk
  cases hr : zrv σ r with
  | none => rw [show zc σ (.inr (.inr r)) = Value.null by simp [zc, hr, va_rf]] at h hk; exact lv_aload_nN hc.1 hc2 hd hi h hk
  | some a => rw [show zc σ (.inr (.inr r)) = Value.ref a by simp [zc, hr, va_rf]] at h hk; exact lv_aload_n hc.1 hc2 hd hi h hk
theorem r_aload {i : Nat} {r : Nat × Nat} (hd : decode M.2.1 pc = .ok (.aload i, 2)) (hl : L[i]? = some (some (.inr (.inr r)))) (k : zE ph d kc ks M (pc + 2) L (.inr (.inr r) :: S) σ Q) : zE ph d kc ks M pc L S σ Q := by
  intro D acl z p l e R s m args below meth c H locs cells slots σe ls Zp mc ms hc h1 h2 h3 h4 h5 h6 hR hZ hS hX hL hV hQ
  have h := (hL.2.2 _ _ hl).1
  have hk := k D acl z p l e R s m args below meth c H locs cells slots σe ls Zp mc ms hc h1 h2 h3 h4 h5 h6 hR hZ hS hX hL (by simp only [List.forall_mem_cons]; exact ⟨(hL.2.2 _ _ hl).2, hV⟩) hQ
  have hc2 := hc.2.1
  rw [List.map_cons] at hk
  cases hr : zrv σ r with
  | none => rw [show zc σ (.inr (.inr r)) = Value.null by simp [zc, hr, va_rf]] at h hk; exact lv_aloadN hc.1 hc2 hd h hk
  | some a => rw [show zc σ (.inr (.inr r)) = Value.ref a by simp [zc, hr, va_rf]] at h hk; exact lv_aload hc.1 hc2 hd h hk
theorem r_istore {i : Nat} {x : Int32} (hd : decode M.2.1 pc = .ok (.istore i, 2)) (hn : i < M.2.2.1) (k : zE ph d kc ks M (pc + 2) (zst L i (.inl x)) S σ Q) : zE ph d kc ks M pc L (.inl x :: S) σ Q := by
  intro D acl z p l e R s m args below meth c H locs cells slots σe ls Zp mc ms hc h1 h2 h3 h4 h5 h6 hR hZ hS hX hL hV hQ
  have hc1 := hc.1
  have hc2 := hc.2.1
  simp only [List.forall_mem_cons] at hV
  obtain ⟨ls', e', h'⟩ := hL.st1 (v := .inl x) hn rfl trivial
  have hk := k D acl z p l e R s m args below meth c H locs cells slots σe ls' Zp mc ms hc h1 h2 h3 h4 h5 h6 hR hZ hS hX h' hV.2 hQ
  rw [List.map_cons]
  simp only [zc] at e' ⊢
  intro T hT X
  obtain ⟨t, a, b⟩ := hk T hT X
  refine ⟨t, ?_, b⟩
  jvm_step X.here [X.here.top, ↓top_set X.here.top, hc1, hc2, hd, e']
  exact a
theorem r_istore_n {n : Fin 4} {i : Nat} (hi : (n : Nat) = i) {x : Int32} (hd : decode M.2.1 pc = .ok (.istore_n n, 1)) (hn : i < M.2.2.1) (k : zE ph d kc ks M (pc + 1) (zst L i (.inl x)) S σ Q) : zE ph d kc ks M pc L (.inl x :: S) σ Q := by
  intro D acl z p l e R s m args below meth c H locs cells slots σe ls Zp mc ms hc h1 h2 h3 h4 h5 h6 hR hZ hS hX hL hV hQ
  have hc1 := hc.1
  have hc2 := hc.2.1
  simp only [List.forall_mem_cons] at hV
  obtain ⟨ls', e', h'⟩ := hL.st1 (v := .inl x) hn rfl trivial
  have hk := k D acl z p l e R s m args below meth c H locs cells slots σe ls' Zp mc ms hc h1 h2 h3 h4 h5 h6 hR hZ hS hX h' hV.2 hQ
  obtain rfl := hi
  rw [List.map_cons]
  simp only [zc] at e' ⊢
  intro T hT X
  obtain ⟨t, a, b⟩ := hk T hT X
  refine ⟨t, ?_, b⟩
  jvm_step X.here [X.here.top, ↓top_set X.here.top, hc1, hc2, hd, e']
  exact a
theorem r_lstore {i : Nat} {x : Int64} (hd : decode M.2.1 pc = .ok (.lstore i, 2)) (hn : i + 1 < M.2.2.1) (k : zE ph d kc ks M (pc + 2) (zst L i (.inr (.inl x))) S σ Q) : zE ph d kc ks M pc L (.inr (.inl x) :: S) σ Q := by
  intro D acl z p l e R s m args below meth c H locs cells slots σe ls Zp mc ms hc h1 h2 h3 h4 h5 h6 hR hZ hS hX hL hV hQ
  have hc1 := hc.1
  have hc2 := hc.2.1
  simp only [List.forall_mem_cons] at hV
  obtain ⟨ls', e', h'⟩ := hL.st2 (y := x) hn
  have hk := k D acl z p l e R s m args below meth c H locs cells slots σe ls' Zp mc ms hc h1 h2 h3 h4 h5 h6 hR hZ hS hX h' hV.2 hQ
  rw [List.map_cons]
  simp only [zc] at e' ⊢
  intro T hT X
  obtain ⟨t, a, b⟩ := hk T hT X
  refine ⟨t, ?_, b⟩
  jvm_step X.here [X.here.top, ↓top_set X.here.top, hc1, hc2, hd, e']
  exact a
theorem r_lstore_n {n : Fin 4} {i : Nat} (hi : (n : Nat) = i) {x : Int64} (hd : decode M.2.1 pc = .ok (.lstore_n n, 1)) (hn : i + 1 < M.2.2.1) (k : zE ph d kc ks M (pc + 1) (zst L i (.inr (.inl x))) S σ Q) : zE ph d kc ks M pc L (.inr (.inl x) :: S) σ Q := by
  intro D acl z p l e R s m args below meth c H locs cells slots σe ls Zp mc ms hc h1 h2 h3 h4 h5 h6 hR hZ hS hX hL hV hQ
  have hc1 := hc.1
  have hc2 := hc.2.1
  simp only [List.forall_mem_cons] at hV
  obtain ⟨ls', e', h'⟩ := hL.st2 (y := x) hn
  have hk := k D acl z p l e R s m args below meth c H locs cells slots σe ls' Zp mc ms hc h1 h2 h3 h4 h5 h6 hR hZ hS hX h' hV.2 hQ
  obtain rfl := hi
  rw [List.map_cons]
  simp only [zc] at e' ⊢
  intro T hT X
  obtain ⟨t, a, b⟩ := hk T hT X
  refine ⟨t, ?_, b⟩
  jvm_step X.here [X.here.top, ↓top_set X.here.top, hc1, hc2, hd, e']
  exact a
theorem r_astore {i : Nat} {r : Nat × Nat} (hd : decode M.2.1 pc = .ok (.astore i, 2)) (hn : i < M.2.2.1) (k : zE ph d kc ks M (pc + 2) (zst L i (.inr (.inr r))) S σ Q) : zE ph d kc ks M pc L (.inr (.inr r) :: S) σ Q := by
  intro D acl z p l e R s m args below meth c H locs cells slots σe ls Zp mc ms hc h1 h2 h3 h4 h5 h6 hR hZ hS hX hL hV hQ
  have hc1 := hc.1
  have hc2 := hc.2.1
  simp only [List.forall_mem_cons] at hV
  obtain ⟨ls', e', h'⟩ := hL.st1 (v := .inr (.inr r)) hn rfl hV.1
  have hk := k D acl z p l e R s m args below meth c H locs cells slots σe ls' Zp mc ms hc h1 h2 h3 h4 h5 h6 hR hZ hS hX h' hV.2 hQ
  rw [List.map_cons]
  cases hr : zrv σ r with
  | none =>
    rw [show zc σ (.inr (.inr r)) = Value.null by simp [zc, hr, va_rf]] at e' ⊢
    intro T hT X
    obtain ⟨t, a, b⟩ := hk T hT X
    refine ⟨t, ?_, b⟩
    jvm_step X.here [X.here.top, ↓top_set X.here.top, hc1, hc2, hd, e', Value.isRef]
    exact a
  | some q =>
    rw [show zc σ (.inr (.inr r)) = Value.ref q by simp [zc, hr, va_rf]] at e' ⊢
    intro T hT X
    obtain ⟨t, a, b⟩ := hk T hT X
    refine ⟨t, ?_, b⟩
    jvm_step X.here [X.here.top, ↓top_set X.here.top, hc1, hc2, hd, e', Value.isRef]
    exact a
theorem r_astore_n {n : Fin 4} {i : Nat} (hi : (n : Nat) = i) {r : Nat × Nat} (hd : decode M.2.1 pc = .ok (.astore_n n, 1)) (hn : i < M.2.2.1) (k : zE ph d kc ks M (pc + 1) (zst L i (.inr (.inr r))) S σ Q) : zE ph d kc ks M pc L (.inr (.inr r) :: S) σ Q := by
  intro D acl z p l e R s m args below meth c H locs cells slots σe ls Zp mc ms hc h1 h2 h3 h4 h5 h6 hR hZ hS hX hL hV hQ
  have hc1 := hc.1
  have hc2 := hc.2.1
  simp only [List.forall_mem_cons] at hV
  obtain ⟨ls', e', h'⟩ := hL.st1 (v := .inr (.inr r)) hn rfl hV.1
  have hk := k D acl z p l e R s m args below meth c H locs cells slots σe ls' Zp mc ms hc h1 h2 h3 h4 h5 h6 hR hZ hS hX h' hV.2 hQ
  obtain rfl := hi
  rw [List.map_cons]
  cases hr : zrv σ r with
  | none =>
    rw [show zc σ (.inr (.inr r)) = Value.null by simp [zc, hr, va_rf]] at e' ⊢
    intro T hT X
    obtain ⟨t, a, b⟩ := hk T hT X
    refine ⟨t, ?_, b⟩
    jvm_step X.here [X.here.top, ↓top_set X.here.top, hc1, hc2, hd, e', Value.isRef]
    exact a
  | some q =>
    rw [show zc σ (.inr (.inr r)) = Value.ref q by simp [zc, hr, va_rf]] at e' ⊢
    intro T hT X
    obtain ⟨t, a, b⟩ := hk T hT X
    refine ⟨t, ?_, b⟩
    jvm_step X.here [X.here.top, ↓top_set X.here.top, hc1, hc2, hd, e', Value.isRef]
    exact a
theorem r_iinc {i : Nat} {n : Int} {x v : Int32} (hd : decode M.2.1 pc = .ok (.iinc i n, 3)) (hl : L[i]? = some (some (.inl x))) (hv : x + Int32.ofInt n = v) (hn : i < M.2.2.1) (k : zE ph d kc ks M (pc + 3) (zst L i (.inl v)) S σ Q) : zE ph d kc ks M pc L S σ Q := by
  subst hv
  intro D acl z p l e R s m args below meth c H locs cells slots σe ls Zp mc ms hc h1 h2 h3 h4 h5 h6 hR hZ hS hX hL hV hQ
  have hc1 := hc.1
  have hc2 := hc.2.1
  have hg := (hL.2.2 _ _ hl).1
  obtain ⟨ls', e', h'⟩ := hL.st1 (v := .inl (x + Int32.ofInt n)) hn rfl trivial
  have hk := k D acl z p l e R s m args below meth c H locs cells slots σe ls' Zp mc ms hc h1 h2 h3 h4 h5 h6 hR hZ hS hX h' hV hQ
  simp only [zc] at e' hg
  intro T hT X
  obtain ⟨t, a, b⟩ := hk T hT X
  refine ⟨t, ?_, b⟩
  jvm_step X.here [X.here.top, ↓top_set X.here.top, hc1, hc2, hd, hg, e']
  exact a
theorem r_ifnull {r : Nat × Nat} {off : Int} {tgt : Nat} (hd : decode M.2.1 pc = .ok (.ifnull off, 3)) (ht : (pc : Int) + off = (tgt : Int)) (kt : r.1 = 0 → zE ph d kc ks M tgt L S σ Q) (kf : ¬ (r.1 = 0) → zE ph d kc ks M (pc + 3) L S σ Q) : zE ph d kc ks M pc L (.inr (.inr r) :: S) σ Q := by
  by_cases hr : r.1 = 0
  · have e1 : zc σ (.inr (.inr r)) = Value.null := by simp [zc, zrv, hr, va_rf]
    exact zE.pure (S1 := .inr (.inr r) :: S) (S2 := S) (fun h => by simp only [List.forall_mem_cons] at h; exact h.2) (fun p l e R s m args below meth c H locs cells slots ls Zp hx hb hown hts hL hV k => by
      rw [List.map_cons, e1]
      exact lv_ifnullN hx hb hd ht k) (kt hr)
  · have e1 : zc σ (.inr (.inr r)) = Value.ref (zad σ r.1 r.2) := by simp [zc, zrv, hr, va_rf]
    exact zE.pure (S1 := .inr (.inr r) :: S) (S2 := S) (fun h => by simp only [List.forall_mem_cons] at h; exact h.2) (fun p l e R s m args below meth c H locs cells slots ls Zp hx hb hown hts hL hV k => by
      rw [List.map_cons, e1]
      exact lv_ifnull hx hb hd k) (kf hr)
theorem r_ifnonnull {r : Nat × Nat} {off : Int} {tgt : Nat} (hd : decode M.2.1 pc = .ok (.ifnonnull off, 3)) (ht : (pc : Int) + off = (tgt : Int)) (kt : ¬ r.1 = 0 → zE ph d kc ks M tgt L S σ Q) (kf : ¬ (¬ r.1 = 0) → zE ph d kc ks M (pc + 3) L S σ Q) : zE ph d kc ks M pc L (.inr (.inr r) :: S) σ Q := by
  by_cases hr : r.1 = 0
  · have e1 : zc σ (.inr (.inr r)) = Value.null := by simp [zc, zrv, hr, va_rf]
    exact zE.pure (S1 := .inr (.inr r) :: S) (S2 := S) (fun h => by simp only [List.forall_mem_cons] at h; exact h.2) (fun p l e R s m args below meth c H locs cells slots ls Zp hx hb hown hts hL hV k => by
      rw [List.map_cons, e1]
      exact lv_ifnonnullN hx hb hd k) (kf (fun h => h hr))
  · have e1 : zc σ (.inr (.inr r)) = Value.ref (zad σ r.1 r.2) := by simp [zc, zrv, hr, va_rf]
    exact zE.pure (S1 := .inr (.inr r) :: S) (S2 := S) (fun h => by simp only [List.forall_mem_cons] at h; exact h.2) (fun p l e R s m args below meth c H locs cells slots ls Zp hx hb hown hts hL hV k => by
      rw [List.map_cons, e1]
      exact lv_ifnonnull hx hb hd ht k) (kt hr)
theorem r_vret  (hr : zrok M pc (none)) (hq : Q (none) σ) : zE ph d kc ks M pc L ([]) σ Q := by
  intro D acl z p l e R s m args below meth c H locs cells slots σe ls Zp mc ms hc h1 h2 h3 h4 h5 h6 hR hZ hS hX hL hV hQ
  exact W.widen (k := mc) (n := ms) (by omega) (by omega) (hQ _ _ _ _ _ _ hq hR hS hX (by simpa using hV) hr)
theorem r_iret {x : Int32} (hr : zrok M pc (some (.inl x))) (hq : Q (some (.inl x)) σ) : zE ph d kc ks M pc L ([.inl x]) σ Q := by
  intro D acl z p l e R s m args below meth c H locs cells slots σe ls Zp mc ms hc h1 h2 h3 h4 h5 h6 hR hZ hS hX hL hV hQ
  exact W.widen (k := mc) (n := ms) (by omega) (by omega) (hQ _ _ _ _ _ _ hq hR hS hX (by simpa using hV) hr)
theorem r_lret {y : Int64} (hr : zrok M pc (some (.inr (.inl y)))) (hq : Q (some (.inr (.inl y))) σ) : zE ph d kc ks M pc L ([.inr (.inl y)]) σ Q := by
  intro D acl z p l e R s m args below meth c H locs cells slots σe ls Zp mc ms hc h1 h2 h3 h4 h5 h6 hR hZ hS hX hL hV hQ
  exact W.widen (k := mc) (n := ms) (by omega) (by omega) (hQ _ _ _ _ _ _ hq hR hS hX (by simpa using hV) hr)
theorem r_aret {r : Nat × Nat} (hr : zrok M pc (some (.inr (.inr r)))) (hq : Q (some (.inr (.inr r))) σ) : zE ph d kc ks M pc L ([.inr (.inr r)]) σ Q := by
  intro D acl z p l e R s m args below meth c H locs cells slots σe ls Zp mc ms hc h1 h2 h3 h4 h5 h6 hR hZ hS hX hL hV hQ
  exact W.widen (k := mc) (n := ms) (by omega) (by omega) (hQ _ _ _ _ _ _ hq hR hS hX (by simpa using hV) hr)
theorem r_widen {kc' ks' : Nat} (h1 : kc' ≤ kc) (h2 : ks' ≤ ks) (k : zE ph d kc' ks' M pc L S σ Q) : zE ph d kc ks M pc L S σ Q := by
  intro D acl z p l e R s m args below meth c H locs cells slots σe ls Zp mc ms hc g1 g2 g3 g4 g5 g6 hR hZ hS hX hL hV hQ
  exact k D acl z p l e R s m args below meth c H locs cells slots σe ls Zp mc ms hc g1 g2 g3 g4 (by omega) (by omega) hR hZ hS hX hL hV hQ
theorem r_sub {L' : List (Option zV)} (h : ∀ (i : Nat) (v : zV), L'[i]? = some (some v) → L[i]? = some (some v)) (k : zE ph d kc ks M pc L' S σ Q) : zE ph d kc ks M pc L S σ Q := by
  intro D acl z p l e R s m args below meth c H locs cells slots σe ls Zp mc ms hc g1 g2 g3 g4 g5 g6 hR hZ hS hX hL hV hQ
  exact k D acl z p l e R s m args below meth c H locs cells slots σe ls Zp mc ms hc g1 g2 g3 g4 g5 g6 hR hZ hS hX ⟨hL.1, hL.2.1, fun i v hv => hL.2.2 i v (h i v hv)⟩ hV hQ
end zR1
