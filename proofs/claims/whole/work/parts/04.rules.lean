/-! the rules of the abstract machine -/
theorem z_in_nat : Cond.native arraycopyName ∈ z_T := z_wi_in (i := 537) (by decide +kernel)
theorem z_in_sta : Cond.static arraycopyName ∈ z_T := z_wi_in (i := 536) (by decide +kernel)
theorem z_in_ini : Cond.initialized "java/lang/System" ∈ z_T := z_wi_in (i := 91) (by decide +kernel)
theorem z_nfw : nativeFrameWords "java/lang/System" "arraycopy" 5 + 11 ≤ 56 := by decide +kernel
theorem z_in_mst : Cond.static Lib.Math.max.name ∈ z_T := z_wi_in (i := 455) (by decide +kernel)
theorem z_in_mco : Cond.code Lib.Math.max.name Lib.Math.max.code 2 (some .int) ∈ z_T := z_wi_in (i := 456) (by decide +kernel)
theorem z_in_nst : Cond.static Lib.Math.min.name ∈ z_T := z_wi_in (i := 458) (by decide +kernel)
theorem z_in_nco : Cond.code Lib.Math.min.name Lib.Math.min.code 2 (some .int) ∈ z_T := z_wi_in (i := 459) (by decide +kernel)
theorem z_in_min : Cond.initialized "java/lang/Math" ∈ z_T := z_wi_in (i := 87) (by decide +kernel)
section
variable {X : zX} {d : Nat} {y : zM} {Post : Value → zS → Prop} {pc n a b t : Nat} {ins : Instr} {u v : Value} {L L' L1 : List (Option Value)} {st : List Value} {S : zS}
def z_isc (ins : Instr) (v : Value) : Bool := match ins, v with
  | .iconst _, _ => true
  | .bipush _, _ => true
  | .sipush _, _ => true
  | .lconst _, _ => true
  | .ldc _, .int _ => true
  | .ldc_w _, .int _ => true
  | .ldc2_w _, .long _ => true
  | _, _ => false
theorem g_c (h : z_at y.2 pc = some (ins, n, v, a, b, t)) (hk : z_isc ins v = true) (k : Go X d y Post n L (v :: st) S) : Go X d y Post pc L st S := by
  intro p e s m args below meth c H locs ls C hP hS hl
  have kk := k p e s m args below meth c H locs ls C hP hS hl
  obtain ⟨ho, hx, hb, hml, hown, hts, -⟩ := C
  obtain ⟨hd, hv⟩ := z_get ho h
  unfold z_isc at hk
  split at hk
  · simp only [z_rv, decide_eq_true_eq] at hv; obtain ⟨rfl, rfl⟩ := hv; rw [Nat.add_sub_cancel_left] at hd; exact lv_iconst hx hb hd rfl kk
  · simp only [z_rv, decide_eq_true_eq] at hv; obtain ⟨rfl, rfl⟩ := hv; rw [Nat.add_sub_cancel_left] at hd; exact lv_bipush hx hb hd rfl kk
  · simp only [z_rv, decide_eq_true_eq] at hv; obtain ⟨rfl, rfl⟩ := hv; rw [Nat.add_sub_cancel_left] at hd; exact lv_sipush hx hb hd rfl kk
  · simp only [z_rv, decide_eq_true_eq] at hv; obtain ⟨rfl, rfl⟩ := hv; rw [Nat.add_sub_cancel_left] at hd; exact lv_lconst hx hb hd rfl kk
  · simp only [z_rv, Bool.and_eq_true, decide_eq_true_eq] at hv; obtain ⟨rfl, hv⟩ := hv; rw [Nat.add_sub_cancel_left] at hd; exact lv_ldc hx hb hown (hts _ (z_wi_in hv)) hd kk
  · simp only [z_rv, Bool.and_eq_true, decide_eq_true_eq] at hv; obtain ⟨rfl, hv⟩ := hv; rw [Nat.add_sub_cancel_left] at hd; exact lv_ldcw hx hb hown (hts _ (z_wi_in hv)) hd kk
  · simp only [z_rv, Bool.and_eq_true, decide_eq_true_eq] at hv; obtain ⟨rfl, hv⟩ := hv; rw [Nat.add_sub_cancel_left] at hd; exact lv_ldc2 hx hb hown (hts _ (z_wi_in hv)) hd kk
  · cases hk
def z_ldt (ins : Instr) (v : Value) : Bool := match ins, v with
  | .iload_n _, .int _ => true
  | .iload _, .int _ => true
  | .aload_n _, .ref _ => true
  | .aload _, .ref _ => true
  | .lload_n _, .long _ => true
  | .lload _, .long _ => true
  | _, _ => false
theorem g_ld (h : z_at y.2 pc = some (ins, n, u, a, b, t)) (hl0 : z_lk L a = some v) (hk : z_ldt ins v = true) (k : Go X d y Post n L (v :: st) S) : Go X d y Post pc L st S := by
  intro p e s m args below meth c H locs ls C hP hS hl
  have kk := k p e s m args below meth c H locs ls C hP hS hl
  obtain ⟨ho, hx, hb, hml, hown, hts, -⟩ := C
  obtain ⟨hd, hv⟩ := z_get ho h
  have hq := hl.2.2 a v hl0
  unfold z_ldt at hk
  split at hk
  · simp only [z_rv, decide_eq_true_eq] at hv; obtain ⟨rfl, rfl⟩ := hv; rw [Nat.add_sub_cancel_left] at hd; exact lv_iload_n hx hb hd rfl hq kk
  · simp only [z_rv, decide_eq_true_eq] at hv; obtain ⟨rfl, rfl⟩ := hv; rw [Nat.add_sub_cancel_left] at hd; exact lv_iload hx hb hd hq kk
  · simp only [z_rv, decide_eq_true_eq] at hv; obtain ⟨rfl, rfl⟩ := hv; rw [Nat.add_sub_cancel_left] at hd; exact lv_aload_n hx hb hd rfl hq kk
  · simp only [z_rv, decide_eq_true_eq] at hv; obtain ⟨rfl, rfl⟩ := hv; rw [Nat.add_sub_cancel_left] at hd; exact lv_aload hx hb hd hq kk
  · simp only [z_rv, decide_eq_true_eq] at hv; obtain ⟨rfl, rfl⟩ := hv; rw [Nat.add_sub_cancel_left] at hd; exact lv_lload_n hx hb hd rfl hq kk
  · simp only [z_rv, decide_eq_true_eq] at hv; obtain ⟨rfl, rfl⟩ := hv; rw [Nat.add_sub_cancel_left] at hd; exact lv_lload hx hb hd hq kk
  · cases hk
def z_stt (ins : Instr) (v : Value) : Bool := match ins, v with
  | .istore_n _, .int _ => true
  | .istore _, .int _ => true
  | .astore_n _, .ref _ => true
  | .astore _, .ref _ => true
  | _, _ => false
theorem z_sl_lt : ∀ (L : List (Option Value)) (i : Nat) (v : Option Value) (L' : List (Option Value)), z_sl L i v = some L' → i < L.length
  | [], i, v, L', h => by cases h
  | o :: r, 0, v, L', h => by simp
  | o :: r, n + 1, v, L', h => by
    simp only [z_sl] at h
    cases hr : z_sl r n v with
    | none => rw [hr] at h; cases h
    | some r' => have := z_sl_lt r n v r' hr; simp only [List.length_cons]; omega
theorem g_st (h : z_at y.2 pc = some (ins, n, u, a, b, t)) (hL : z_sl L a (some v) = some L') (hk : z_stt ins v = true) (hp : z_pk L a = true) (hn : Nat.blt a y.1.2.2.1 = true) (k : Go X d y Post n L' st S) : Go X d y Post pc L (v :: st) S := by
  intro p e s m args below meth c H locs ls C hP hS hl
  have kk := fun ls' (hl' : lv_has ls' y.1.2.2.1 _) => k p e s m args below meth c H locs ls' C hP hS (z_L.st1 (ad := X.2.2.2.1) hL hp hl')
  obtain ⟨ho, hx, hb, hml, hown, hts, -⟩ := C
  obtain ⟨hd, hv⟩ := z_get ho h
  have hn : a < y.1.2.2.1 := by simpa [Nat.blt_eq] using hn
  unfold z_stt at hk
  split at hk
  · simp only [z_rv, decide_eq_true_eq] at hv; obtain ⟨rfl, rfl⟩ := hv; rw [Nat.add_sub_cancel_left] at hd; exact lv_istore_n hx hb hd rfl hl.has hn rfl kk
  · simp only [z_rv, decide_eq_true_eq] at hv; obtain ⟨rfl, rfl⟩ := hv; rw [Nat.add_sub_cancel_left] at hd; exact lv_istore hx hb hd hl.has hn rfl kk
  · simp only [z_rv, decide_eq_true_eq] at hv; obtain ⟨rfl, rfl⟩ := hv; rw [Nat.add_sub_cancel_left] at hd; exact lv_astore_n hx hb hd rfl hl.has hn rfl kk
  · simp only [z_rv, decide_eq_true_eq] at hv; obtain ⟨rfl, rfl⟩ := hv; rw [Nat.add_sub_cancel_left] at hd; exact lv_astore hx hb hd hl.has hn rfl kk
  · cases hk
def z_stl (ins : Instr) : Bool := match ins with
  | .lstore_n _ => true
  | .lstore _ => true
  | _ => false
theorem g_stl {x : Int64} (h : z_at y.2 pc = some (ins, n, u, a, b, t)) (hk : z_stl ins = true) (hL : z_sl L a (some (.long x)) = some L1) (hL1 : z_sl L1 (a + 1) none = some L') (hp : z_pk L a = true) (hn : Nat.blt (a + 1) y.1.2.2.1 = true) (k : Go X d y Post n L' st S) : Go X d y Post pc L (.long x :: st) S := by
  intro p e s m args below meth c H locs ls C hP hS hl
  have kk := fun ls' (hl' : lv_has ls' y.1.2.2.1 _) => k p e s m args below meth c H locs ls' C hP hS (z_L.st2 (ad := X.2.2.2.1) hL hL1 hp hl')
  obtain ⟨ho, hx, hb, hml, hown, hts, -⟩ := C
  obtain ⟨hd, hv⟩ := z_get ho h
  have hn : a + 1 < y.1.2.2.1 := by simpa [Nat.blt_eq] using hn
  unfold z_stl at hk
  split at hk
  · simp only [z_rv, decide_eq_true_eq] at hv; obtain ⟨rfl, rfl⟩ := hv; rw [Nat.add_sub_cancel_left] at hd; exact lv_lstore_n hx hb hd rfl hl.has hn rfl kk
  · simp only [z_rv, decide_eq_true_eq] at hv; obtain ⟨rfl, rfl⟩ := hv; rw [Nat.add_sub_cancel_left] at hd; exact lv_lstore hx hb hd hl.has hn rfl kk
  · cases hk
theorem g_inc {x z : Int32} {k0 : Nat} {c0 : Int} (h : z_at y.2 pc = some (.iinc k0 c0, n, .int z, a, b, t)) (hl0 : z_lk L a = some (.int x)) (hL : z_sl L a (some (.int (x + z))) = some L') (hp : z_pk L a = true) (k : Go X d y Post n L' st S) : Go X d y Post pc L st S := by
  intro p e s m args below meth c H locs ls C hP hS hl
  have kk := fun ls' (hl' : lv_has ls' y.1.2.2.1 _) => k p e s m args below meth c H locs ls' C hP hS (z_L.st1 (ad := X.2.2.2.1) hL hp hl')
  obtain ⟨ho, hx, hb, hml, hown, hts, -⟩ := C
  obtain ⟨hd, hv⟩ := z_get ho h
  simp only [z_rv, decide_eq_true_eq] at hv
  obtain ⟨rfl, rfl, hz⟩ := hv
  cases hz
  rw [Nat.add_sub_cancel_left] at hd
  obtain ⟨i, hi⟩ := List.getElem?_of_mem ((z_as_mem (ad := X.2.2.2.1) L 0 (a, .int x)).mpr ⟨a, .int x, by simp [z_v], hl0⟩)
  exact lv_iinc hx hb hd hl.has hi rfl (hl.lt hl0) rfl kk
def z_bin (ins : Instr) (p q : Value) : Option Value := match ins, p, q with
  | .iadd, .int x, .int y => some (.int (x + y))
  | .isub, .int x, .int y => some (.int (x - y))
  | .imul, .int x, .int y => some (.int (x * y))
  | .iand, .int x, .int y => some (.int (x &&& y))
  | .ior, .int x, .int y => some (.int (x ||| y))
  | .ixor, .int x, .int y => some (.int (x ^^^ y))
  | .ishl, .int x, .int y => some (.int (x <<< (y &&& 31)))
  | .ishr, .int x, .int y => some (.int (x >>> (y &&& 31)))
  | .iushr, .int x, .int y => some (.int (x.toUInt32 >>> (y.toUInt32 &&& Int32.toUInt32 31)).toInt32)
  | .ladd, .long x, .long y => some (.long (x + y))
  | .lsub, .long x, .long y => some (.long (x - y))
  | .lmul, .long x, .long y => some (.long (x * y))
  | .land, .long x, .long y => some (.long (x &&& y))
  | .lcmp, .long x, .long y => some (.int (lg_cmp x y))
  | _, _, _ => none
theorem g_bin {p0 q0 : Value} (h : z_at y.2 pc = some (ins, n, u, a, b, t)) (hk : z_bin ins p0 q0 = some v) (k : Go X d y Post n L (v :: st) S) : Go X d y Post pc L (q0 :: p0 :: st) S := by
  intro p e s m args below meth c H locs ls C hP hS hl
  have kk := k p e s m args below meth c H locs ls C hP hS hl
  obtain ⟨ho, hx, hb, hml, hown, hts, -⟩ := C
  obtain ⟨hd, hv⟩ := z_get ho h
  unfold z_bin at hk
  split at hk
  · simp only [z_rv, decide_eq_true_eq] at hv; subst hv; rw [Nat.add_sub_cancel_left] at hd; cases hk; exact lv_iadd hx hb hd kk
  · simp only [z_rv, decide_eq_true_eq] at hv; subst hv; rw [Nat.add_sub_cancel_left] at hd; cases hk; exact lv_isub hx hb hd kk
  · simp only [z_rv, decide_eq_true_eq] at hv; subst hv; rw [Nat.add_sub_cancel_left] at hd; cases hk; exact lv_imul hx hb hd kk
  · simp only [z_rv, decide_eq_true_eq] at hv; subst hv; rw [Nat.add_sub_cancel_left] at hd; cases hk; exact lv_iand hx hb hd kk
  · simp only [z_rv, decide_eq_true_eq] at hv; subst hv; rw [Nat.add_sub_cancel_left] at hd; cases hk; exact lv_ior hx hb hd kk
  · simp only [z_rv, decide_eq_true_eq] at hv; subst hv; rw [Nat.add_sub_cancel_left] at hd; cases hk; exact lv_ixor hx hb hd kk
  · simp only [z_rv, decide_eq_true_eq] at hv; subst hv; rw [Nat.add_sub_cancel_left] at hd; cases hk; exact lv_ishl hx hb hd kk
  · simp only [z_rv, decide_eq_true_eq] at hv; subst hv; rw [Nat.add_sub_cancel_left] at hd; cases hk; exact lv_ishr hx hb hd kk
  · simp only [z_rv, decide_eq_true_eq] at hv; subst hv; rw [Nat.add_sub_cancel_left] at hd; cases hk; exact lv_iushr hx hb hd rfl kk
  · simp only [z_rv, decide_eq_true_eq] at hv; subst hv; rw [Nat.add_sub_cancel_left] at hd; cases hk; exact lv_ladd hx hb hd kk
  · simp only [z_rv, decide_eq_true_eq] at hv; subst hv; rw [Nat.add_sub_cancel_left] at hd; cases hk; exact lv_lsub hx hb hd kk
  · simp only [z_rv, decide_eq_true_eq] at hv; subst hv; rw [Nat.add_sub_cancel_left] at hd; cases hk; exact lv_lmul hx hb hd kk
  · simp only [z_rv, decide_eq_true_eq] at hv; subst hv; rw [Nat.add_sub_cancel_left] at hd; cases hk; exact lv_land hx hb hd kk
  · simp only [z_rv, decide_eq_true_eq] at hv; subst hv; rw [Nat.add_sub_cancel_left] at hd; cases hk; exact W.lcmp hx hb hd kk
  · cases hk
def z_un (ins : Instr) (p : Value) : Option Value := match ins, p with
  | .i2l, .int x => some (.long x.toInt64)
  | .l2i, .long x => some (.int x.toInt32)
  | .i2c, .int x => some (.int (x.toUInt32 % 65536).toInt32)
  | .i2b, .int x => some (.int x.toInt8.toInt32)
  | .ineg, .int x => some (.int (-x))
  | _, _ => none
theorem g_un {p0 : Value} (h : z_at y.2 pc = some (ins, n, u, a, b, t)) (hk : z_un ins p0 = some v) (k : Go X d y Post n L (v :: st) S) : Go X d y Post pc L (p0 :: st) S := by
  intro p e s m args below meth c H locs ls C hP hS hl
  have kk := k p e s m args below meth c H locs ls C hP hS hl
  obtain ⟨ho, hx, hb, hml, hown, hts, -⟩ := C
  obtain ⟨hd, hv⟩ := z_get ho h
  unfold z_un at hk
  split at hk
  · simp only [z_rv, decide_eq_true_eq] at hv; subst hv; rw [Nat.add_sub_cancel_left] at hd; cases hk; exact lv_i2l hx hb hd rfl kk
  · simp only [z_rv, decide_eq_true_eq] at hv; subst hv; rw [Nat.add_sub_cancel_left] at hd; cases hk; exact lv_l2i hx hb hd rfl kk
  · simp only [z_rv, decide_eq_true_eq] at hv; subst hv; rw [Nat.add_sub_cancel_left] at hd; cases hk; exact lv_i2c hx hb hd rfl kk
  · simp only [z_rv, decide_eq_true_eq] at hv; subst hv; rw [Nat.add_sub_cancel_left] at hd; cases hk; exact lv_i2b hx hb hd rfl kk
  · simp only [z_rv, decide_eq_true_eq] at hv; subst hv; rw [Nat.add_sub_cancel_left] at hd; cases hk; exact lv_ineg hx hb hd kk
  · cases hk
theorem z_cat1 {v : Value} (h : Nat.beq v.category 1 = true) (ad : Nat → Nat) : (z_v ad v).category = 1 := by rw [z_v_cat]; exact Nat.eq_of_beq_eq_true h
theorem g_dup (h : z_at y.2 pc = some (.dup, n, u, a, b, t)) (hc : Nat.beq v.category 1 = true) (k : Go X d y Post n L (v :: v :: st) S) : Go X d y Post pc L (v :: st) S := by
  intro p e s m args below meth c H locs ls C hP hS hl
  have kk := k p e s m args below meth c H locs ls C hP hS hl
  obtain ⟨ho, hx, hb, hml, hown, hts, -⟩ := C
  obtain ⟨hd, hv⟩ := z_get ho h
  simp only [z_rv, decide_eq_true_eq] at hv; subst hv; rw [Nat.add_sub_cancel_left] at hd
  exact lv_dup hx hb hd (z_cat1 hc _) kk
theorem g_pop (h : z_at y.2 pc = some (.pop, n, u, a, b, t)) (hc : Nat.beq v.category 1 = true) (k : Go X d y Post n L st S) : Go X d y Post pc L (v :: st) S := by
  intro p e s m args below meth c H locs ls C hP hS hl
  have kk := k p e s m args below meth c H locs ls C hP hS hl
  obtain ⟨ho, hx, hb, hml, hown, hts, -⟩ := C
  obtain ⟨hd, hv⟩ := z_get ho h
  simp only [z_rv, decide_eq_true_eq] at hv; subst hv; rw [Nat.add_sub_cancel_left] at hd
  exact lv_pop hx hb hd (z_cat1 hc _) kk
theorem g_dup2 {w : Value} (h : z_at y.2 pc = some (.dup2, n, u, a, b, t)) (hc : Nat.beq v.category 1 = true) (hc2 : Nat.beq w.category 1 = true) (k : Go X d y Post n L (v :: w :: v :: w :: st) S) : Go X d y Post pc L (v :: w :: st) S := by
  intro p e s m args below meth c H locs ls C hP hS hl
  have kk := k p e s m args below meth c H locs ls C hP hS hl
  obtain ⟨ho, hx, hb, hml, hown, hts, -⟩ := C
  obtain ⟨hd, hv⟩ := z_get ho h
  simp only [z_rv, decide_eq_true_eq] at hv; subst hv; rw [Nat.add_sub_cancel_left] at hd
  exact lv_dup2_11 hx hb hd (z_cat1 hc _) (z_cat1 hc2 _) kk
def z_cnd (ins : Instr) (st : List Value) : Option (Prop × List Value) := match ins, st with
  | .ifCond .eq _, .int x :: r => some (x = 0, r)
  | .ifCond .ne _, .int x :: r => some (x ≠ 0, r)
  | .ifCond .lt _, .int x :: r => some (x < 0, r)
  | .ifCond .ge _, .int x :: r => some (0 ≤ x, r)
  | .ifCond .gt _, .int x :: r => some (0 < x, r)
  | .ifCond .le _, .int x :: r => some (x ≤ 0, r)
  | .if_icmp .eq _, .int y :: .int x :: r => some (x = y, r)
  | .if_icmp .ne _, .int y :: .int x :: r => some (x ≠ y, r)
  | .if_icmp .lt _, .int y :: .int x :: r => some (x < y, r)
  | .if_icmp .ge _, .int y :: .int x :: r => some (y ≤ x, r)
  | .if_icmp .gt _, .int y :: .int x :: r => some (y < x, r)
  | .if_icmp .le _, .int y :: .int x :: r => some (x ≤ y, r)
  | _, _ => none
theorem g_if {P : Prop} {rest : List Value} (h : z_at y.2 pc = some (ins, n, u, a, b, t)) (hk : z_cnd ins st = some (P, rest)) (kt : P → Go X d y Post t L rest S) (kf : ¬ P → Go X d y Post n L rest S) : Go X d y Post pc L st S := by
  intro p e s m args below meth c H locs ls C hP hS hl
  have kt := fun hp => kt hp p e s m args below meth c H locs ls C hP hS hl
  have kf := fun hp => kf hp p e s m args below meth c H locs ls C hP hS hl
  obtain ⟨ho, hx, hb, hml, hown, hts, -⟩ := C
  obtain ⟨hd, hv⟩ := z_get ho h
  unfold z_cnd at hk
  split at hk
  · simp only [z_rv, decide_eq_true_eq] at hv; obtain ⟨rfl, ht⟩ := hv; rw [Nat.add_sub_cancel_left] at hd; cases hk; exact lv_if_eq hx hb hd ht kt kf
  · simp only [z_rv, decide_eq_true_eq] at hv; obtain ⟨rfl, ht⟩ := hv; rw [Nat.add_sub_cancel_left] at hd; cases hk; exact lv_if_ne hx hb hd ht kt (fun q => kf (fun z => z q))
  · simp only [z_rv, decide_eq_true_eq] at hv; obtain ⟨rfl, ht⟩ := hv; rw [Nat.add_sub_cancel_left] at hd; cases hk; exact lv_if_lt hx hb hd ht kt kf
  · simp only [z_rv, decide_eq_true_eq] at hv; obtain ⟨rfl, ht⟩ := hv; rw [Nat.add_sub_cancel_left] at hd; cases hk; exact lv_if_ge hx hb hd ht kt kf
  · simp only [z_rv, decide_eq_true_eq] at hv; obtain ⟨rfl, ht⟩ := hv; rw [Nat.add_sub_cancel_left] at hd; cases hk; exact lv_if_gt hx hb hd ht kt kf
  · simp only [z_rv, decide_eq_true_eq] at hv; obtain ⟨rfl, ht⟩ := hv; rw [Nat.add_sub_cancel_left] at hd; cases hk; exact lv_if_le hx hb hd ht kt kf
  · simp only [z_rv, decide_eq_true_eq] at hv; obtain ⟨rfl, ht⟩ := hv; rw [Nat.add_sub_cancel_left] at hd; cases hk; exact lv_icmp_eq hx hb hd ht kt kf
  · simp only [z_rv, decide_eq_true_eq] at hv; obtain ⟨rfl, ht⟩ := hv; rw [Nat.add_sub_cancel_left] at hd; cases hk; exact lv_icmp_ne hx hb hd ht kt (fun q => kf (fun z => z q))
  · simp only [z_rv, decide_eq_true_eq] at hv; obtain ⟨rfl, ht⟩ := hv; rw [Nat.add_sub_cancel_left] at hd; cases hk; exact lv_icmp_lt hx hb hd ht kt kf
  · simp only [z_rv, decide_eq_true_eq] at hv; obtain ⟨rfl, ht⟩ := hv; rw [Nat.add_sub_cancel_left] at hd; cases hk; exact lv_icmp_ge hx hb hd ht kt kf
  · simp only [z_rv, decide_eq_true_eq] at hv; obtain ⟨rfl, ht⟩ := hv; rw [Nat.add_sub_cancel_left] at hd; cases hk; exact lv_icmp_gt hx hb hd ht kt kf
  · simp only [z_rv, decide_eq_true_eq] at hv; obtain ⟨rfl, ht⟩ := hv; rw [Nat.add_sub_cancel_left] at hd; cases hk; exact lv_icmp_le hx hb hd ht kt kf
  · cases hk
theorem g_go {off : Int} (h : z_at y.2 pc = some (.goto off, n, u, a, b, t)) (k : Go X d y Post t L st S) : Go X d y Post pc L st S := by
  intro p e s m args below meth c H locs ls C hP hS hl
  have kk := k p e s m args below meth c H locs ls C hP hS hl
  obtain ⟨ho, hx, hb, hml, hown, hts, -⟩ := C
  obtain ⟨hd, hv⟩ := z_get ho h
  simp only [z_rv, decide_eq_true_eq] at hv; obtain ⟨rfl, ht⟩ := hv; rw [Nat.add_sub_cancel_left] at hd
  exact lv_goto hx hb hd ht kk
theorem g_weak (hle : z_le L' L) (k : Go X d y Post pc L' st S) : Go X d y Post pc L st S := by
  intro p e s m args below meth c H locs ls C hP hS hl
  exact k p e s m args below meth c H locs ls C hP hS ⟨hl.1, hl.2.1, fun i v hi => hl.2.2 i v (z_le_lk _ _ hle i v hi)⟩
theorem z_le_0 {L : List (Option Value)} : z_le [] L := by unfold z_le; trivial
theorem z_le_s {v : Value} {r r' : List (Option Value)} (h : z_le r r') : z_le (some v :: r) (some v :: r') := ⟨rfl, h⟩
theorem z_le_n {o : Option Value} {r r' : List (Option Value)} (h : z_le r r') : z_le (none :: r) (o :: r') := h
/-! fields -/
theorem z_fds {X : zX} {S : zS} {r ci a : Nat} {q : vw_C} (hq : zcl[ci]? = some q) (ha : a < q.2.2) : ((List.range (z_nf ci)).map (z_fd X S r))[a]? = some (z_fd X S r a) := by
  have : z_nf ci = q.2.2 := by simp [z_nf, hq]
  simp [this, ha]
theorem z_gfv {X : zX} {d : Nat} {y : zM} {Post : Value → zS → Prop} {pc n a b t i r : Nat} {u w : Value} {L : List (Option Value)} {st : List Value} {S : zS} (h : z_at y.2 pc = some (.getfield i, n, u, a, b, t)) (hr : r < X.2.1.1) (hc : X.2.1.2.1 r = .inl (t / 2)) (hq : (zcl[t / 2]?).isSome = true) (hw : z_v X.2.2.2.1 w = z_fd X S r a) (k : Go X d y Post n L (w :: st) S) : Go X d y Post pc L (.ref r :: st) S := by
  intro p e s m args below meth c H locs ls C hP hS hl
  have kk := k p e s m args below meth c H locs ls C hP hS hl
  obtain ⟨ho, hx, hb, hml, hown, hts, hret, hlk, hK, hst, hap, hwk, hnw⟩ := C
  obtain ⟨hd, hv⟩ := z_get ho h
  obtain ⟨q, hq⟩ := Option.isSome_iff_exists.mp hq
  simp only [z_rv, hq, Bool.and_eq_true, decide_eq_true_eq] at hv
  obtain ⟨rfl, ha, hv⟩ := hv
  rw [Nat.add_sub_cancel_left] at hd
  cases ht : Nat.beq (t % 2) 0 with
  | false => rw [ht] at hv; cases hv
  | true =>
    rw [ht] at hv
    have hv : z_wi b (.fieldLink y.1.1.cls i (q.2.1 a).1 (q.2.1 a).2.1 (q.2.1 a).2.2.1) = true := hv
    refine va_get hx hb (T := q.2.1) (N := q.2.2) (C := q.1) (Ts := z_T) hts (z_cin _ _ hq) hown hK hP r (fs := (List.range (z_nf (t / 2))).map (z_fd X S r)) (ci := t / 2) ?_ hq a ha (hts _ (z_wi_in hv)) (fun _ z => z) (v := z_fd X S r a) (z_fds hq ha) hd ?_
    · rw [z_ws_get hr]; simp only [z_en, hc]
    · rw [← hw]; exact kk
theorem g_gi {i r : Nat} (h : z_at y.2 pc = some (.getfield i, n, u, a, b, t)) (hr : Nat.blt r X.2.1.1 = true) (hc : X.2.1.2.1 r = .inl (t / 2)) (hq : (zcl[t / 2]?).isSome = true) (hf : X.2.1.2.2.1 r a = none) (k : Go X d y Post n L (.int (S.1 r a) :: st) S) : Go X d y Post pc L (.ref r :: st) S :=
  z_gfv h (by simpa [Nat.blt_eq] using hr) hc hq (by simp [z_fd, hf, z_v]) k
theorem g_gl {i r : Nat} (h : z_at y.2 pc = some (.getfield i, n, u, a, b, t)) (hr : Nat.blt r X.2.1.1 = true) (hc : X.2.1.2.1 r = .inl (t / 2)) (hq : (zcl[t / 2]?).isSome = true) (hf : X.2.1.2.2.1 r a = some none) (k : Go X d y Post n L (.long (S.2 r) :: st) S) : Go X d y Post pc L (.ref r :: st) S :=
  z_gfv h (by simpa [Nat.blt_eq] using hr) hc hq (by simp [z_fd, hf, z_v]) k
theorem g_gr {i r q0 : Nat} (h : z_at y.2 pc = some (.getfield i, n, u, a, b, t)) (hr : Nat.blt r X.2.1.1 = true) (hc : X.2.1.2.1 r = .inl (t / 2)) (hq : (zcl[t / 2]?).isSome = true) (hf : X.2.1.2.2.1 r a = some (some q0)) (k : Go X d y Post n L (.ref q0 :: st) S) : Go X d y Post pc L (.ref r :: st) S :=
  z_gfv h (by simpa [Nat.blt_eq] using hr) hc hq (by simp [z_fd, hf, z_v]) k
def z_fin (ci a : Nat) : Bool := match zcl[ci]? with
  | some q => (q.2.1 a).2.2.2
  | none => true
theorem z_pfv {X : zX} {d : Nat} {y : zM} {Post : Value → zS → Prop} {pc n a b t i r : Nat} {u w : Value} {L : List (Option Value)} {st : List Value} {S S' : zS} (h : z_at y.2 pc = some (.putfield i, n, u, a, b, t)) (hr : r < X.2.1.1) (hc : X.2.1.2.1 r = .inl (t / 2)) (hfi : z_fin (t / 2) a = false) (hn : narrow (z_ty (t / 2) a) (z_v X.2.2.2.1 w) = z_v X.2.2.2.1 w) (hfit : fits (z_ty (t / 2) a) (z_v X.2.2.2.1 w) = true)
    (hS' : ∀ k, k ≠ r → z_en X S' k = z_en X S k) (hSr : ∀ j, z_fd X S' r j = if j = a then z_v X.2.2.2.1 w else z_fd X S r j) (k : Go X d y Post n L st S') : Go X d y Post pc L (w :: .ref r :: st) S := by
  intro p e s m args below meth c H locs ls C hP hS hl
  have C0 := C
  obtain ⟨ho, hx, hb, hml, hown, hts, hret, hlk, hK, hst, hap, hwk, hnw⟩ := C
  obtain ⟨hd, hv⟩ := z_get ho h
  have hq : ∃ q, zcl[t / 2]? = some q := by
    unfold z_fin at hfi
    cases hz : zcl[t / 2]? with
    | none => rw [hz] at hfi; cases hfi
    | some q => exact ⟨q, rfl⟩
  obtain ⟨q, hq⟩ := hq
  simp only [z_rv, hq, Bool.and_eq_true, decide_eq_true_eq] at hv
  obtain ⟨rfl, ha, hv⟩ := hv
  rw [Nat.add_sub_cancel_left] at hd
  have hfi : (q.2.1 a).2.2.2 = false := by simpa [z_fin, hq] using hfi
  cases ht : Nat.beq (t % 2) 0 with
  | false => rw [ht] at hv; cases hv
  | true =>
    rw [ht] at hv
    have hv : z_wi b (.fieldLink y.1.1.cls i (q.2.1 a).1 (q.2.1 a).2.1 (q.2.1 a).2.2.1) = true := hv
    have hnf : z_nf (t / 2) = q.2.2 := by simp [z_nf, hq]
    refine va_put hx hb (T := q.2.1) (N := q.2.2) (C := q.1) (Ts := z_T) hts (z_cin _ _ hq) (z_ty (t / 2)) (z_cty _ _ hq) (z_cnm _ _ hq) hown hK hP (z_D hap) hS r (fs := (List.range (z_nf (t / 2))).map (z_fd X S r)) (ci := t / 2) ?_ hq a ha (hts _ (z_wi_in hv)) (fun _ z => z) hfi (z_cty _ _ hq a ha) hn hfit (by simpa [hnf] using ha) hd (fun H1 locs1 hP1 hD1 hS1 => ?_)
    · rw [z_ws_get hr]; simp only [z_en, hc]
    · rw [z_ws_set (S' := S') ?_ hS'] at hP1
      · exact k p e s m args below meth c H1 locs1 ls C0 hP1 hS1 hl
      · simp only [z_en, hc]
        congr 2
        apply List.ext_getElem?
        intro j
        by_cases hj : j < z_nf (t / 2)
        · by_cases hja : j = a
          · subst hja
            rw [List.getElem?_set_self (by simpa using hj)]
            simp [hj, hSr]
          · rw [List.getElem?_set_ne (Ne.symm hja)]
            simp [hj, hSr, hja]
        · rw [List.getElem?_eq_none (by simpa using hj), List.getElem?_eq_none (by simpa using hj)]
theorem g_pi {i r : Nat} {x : Int32} (h : z_at y.2 pc = some (.putfield i, n, u, a, b, t)) (hr : Nat.blt r X.2.1.1 = true) (hc : X.2.1.2.1 r = .inl (t / 2)) (hfi : z_fin (t / 2) a = false) (hn : narrow (z_ty (t / 2) a) (.int x) = .int x) (hfit : fits (z_ty (t / 2) a) (.int x) = true) (hf : X.2.1.2.2.1 r a = none) (k : Go X d y Post n L st (z_ui S r a x)) : Go X d y Post pc L (.int x :: .ref r :: st) S :=
  z_pfv (w := .int x) h (by simpa [Nat.blt_eq] using hr) hc hfi hn hfit z_en_uf (fun j => by
    by_cases hj : j = a
    · subst hj; simp [z_fd, hf, z_v, z_ui, z_uf, upd]
    · rw [if_neg hj]
      simp only [z_fd, z_ui, z_uf]
      cases X.2.1.2.2.1 r j with
      | none => simp [upd, hj]
      | some o => cases o <;> rfl) k
theorem g_pl {i r : Nat} {x : Int64} (h : z_at y.2 pc = some (.putfield i, n, u, a, b, t)) (hr : Nat.blt r X.2.1.1 = true) (hc : X.2.1.2.1 r = .inl (t / 2)) (hfi : z_fin (t / 2) a = false) (hn : narrow (z_ty (t / 2) a) (.long x) = .long x) (hfit : fits (z_ty (t / 2) a) (.long x) = true) (hf : X.2.1.2.2.1 r a = some none) (ho : ∀ j, j ≠ a → X.2.1.2.2.1 r j ≠ some none) (k : Go X d y Post n L st (z_ul S r x)) : Go X d y Post pc L (.long x :: .ref r :: st) S :=
  z_pfv (w := .long x) h (by simpa [Nat.blt_eq] using hr) hc hfi hn hfit z_en_ul (fun j => by
    by_cases hj : j = a
    · subst hj; simp [z_fd, hf, z_v, z_ul]
    · rw [if_neg hj]
      have := ho j hj
      simp only [z_fd, z_ul]
      cases hz : X.2.1.2.2.1 r j with
      | none => rfl
      | some o =>
        cases o with
        | none => exact absurd hz this
        | some q => rfl) k
/-! rows -/
theorem g_ald {r N : Nat} {x : Int32} (h : z_at y.2 pc = some (.iaload, n, u, a, b, t)) (hr : Nat.blt r X.2.1.1 = true) (hc : X.2.1.2.1 r = .inr N) (hin : vp_in x N) (k : Go X d y Post n L (.int (S.1 r x.toNatClampNeg) :: st) S) : Go X d y Post pc L (.int x :: .ref r :: st) S := by
  intro p e s m args below meth c H locs ls C hP hS hl
  have kk := k p e s m args below meth c H locs ls C hP hS hl
  obtain ⟨ho, hx, hb, hml, hown, hts, hret, hlk, hK, hst, hap, hwk, hnw⟩ := C
  obtain ⟨hd, hv⟩ := z_get ho h
  simp only [z_rv, decide_eq_true_eq] at hv; subst hv; rw [Nat.add_sub_cancel_left] at hd
  exact va_iald hx hb hK hP r 0 (f := S.1 r) (by rw [z_ws_get (by simpa [Nat.blt_eq] using hr)]; simp only [z_en, hc]) rfl hin hd kk
theorem g_ast {r N : Nat} {x z : Int32} (h : z_at y.2 pc = some (.iastore, n, u, a, b, t)) (hr : Nat.blt r X.2.1.1 = true) (hc : X.2.1.2.1 r = .inr N) (hin : vp_in x N) (k : Go X d y Post n L st (z_ui S r x.toNatClampNeg z)) : Go X d y Post pc L (.int z :: .int x :: .ref r :: st) S := by
  intro p e s m args below meth c H locs ls C hP hS hl
  have kk := fun H locs hP hS => k p e s m args below meth c H locs ls C hP hS hl
  obtain ⟨ho, hx, hb, hml, hown, hts, hret, hlk, hK, hst, hap, hwk, hnw⟩ := C
  obtain ⟨hd, hv⟩ := z_get ho h
  simp only [z_rv, decide_eq_true_eq] at hv; subst hv; rw [Nat.add_sub_cancel_left] at hd
  refine va_iast hx hb hK hP (z_D hap) hS r 0 (f := S.1 r) (by rw [z_ws_get (by simpa [Nat.blt_eq] using hr)]; simp only [z_en, hc]) rfl hin hd (fun H1 locs1 hP1 hD1 hS1 => ?_)
  rw [z_ws_set (S' := z_ui S r x.toNatClampNeg z) (by simp only [z_en, hc]; simp [z_ui, z_uf]) z_en_uf] at hP1
  exact kk H1 locs1 hP1 hS1
theorem g_len {r N : Nat} (h : z_at y.2 pc = some (.arraylength, n, u, a, b, t)) (hr : Nat.blt r X.2.1.1 = true) (hc : X.2.1.2.1 r = .inr N) (k : Go X d y Post n L (.int (nI N) :: st) S) : Go X d y Post pc L (.ref r :: st) S := by
  intro p e s m args below meth c H locs ls C hP hS hl
  have kk := k p e s m args below meth c H locs ls C hP hS hl
  obtain ⟨ho, hx, hb, hml, hown, hts, hret, hlk, hK, hst, hap, hwk, hnw⟩ := C
  obtain ⟨hd, hv⟩ := z_get ho h
  simp only [z_rv, decide_eq_true_eq] at hv; subst hv; rw [Nat.add_sub_cancel_left] at hd
  exact va_alen hx hb hK hP r 0 (x := (N, .inl (S.1 r))) (by rw [z_ws_get (by simpa [Nat.blt_eq] using hr)]; simp only [z_en, hc]) (ty := .int) rfl rfl hd kk
theorem g_cpy {r0 r1 N0 N1 i : Nat} {x sp dp : Int32} (h : z_at y.2 pc = some (.invokestatic i, n, u, 998, b, t)) (hr0 : Nat.blt r0 X.2.1.1 = true) (hr1 : Nat.blt r1 X.2.1.1 = true) (hc0 : X.2.1.2.1 r0 = .inr N0) (hc1 : X.2.1.2.1 r1 = .inr N1) (h1 : ¬ sp < 0) (h2 : ¬ dp < 0) (h3 : ¬ x < 0) (h4 : sp.toNatClampNeg + x.toNatClampNeg ≤ N0) (h5 : dp.toNatClampNeg + x.toNatClampNeg ≤ N1) (hst0 : (st.map fun v => v.category).sum ≤ 8)
    (k : Go X d y Post n L st (z_uf S r1 (va_cpy (S.1 r0) (S.1 r1) sp.toNatClampNeg dp.toNatClampNeg x.toNatClampNeg))) : Go X d y Post pc L (.int x :: .int dp :: .ref r1 :: .int sp :: .ref r0 :: st) S := by
  intro p e s m args below meth c H locs ls C hP hS hl
  have kk := fun H locs hP hS => k p e s m args below meth c H locs ls C hP hS hl
  obtain ⟨ho, hx, hb, hml, hown, hts, hret, hlk, hK, hst, hap, hwk, hnw⟩ := C
  obtain ⟨hd, hv⟩ := z_get ho h
  simp only [z_rv, Bool.and_eq_true, decide_eq_true_eq] at hv
  obtain ⟨rfl, hv⟩ := hv
  rw [Nat.add_sub_cancel_left] at hd
  have hv : z_wi b (.methodLink y.1.1.cls i arraycopyName) = true := hv
  have hcat : ((st.map (z_v X.2.2.2.1)).map fun v => v.category).sum ≤ 8 := by
    rw [List.map_map]
    have : (st.map ((fun v => v.category) ∘ z_v X.2.2.2.1)) = st.map (fun v => v.category) := List.map_congr_left (fun v _ => z_v_cat _ v)
    rw [this]; exact hst0
  refine va_copyi hx hb (hml.trans hl.1.symm) hown (hts _ (z_wi_in hv)) (hts _ z_in_nat) (hts _ z_in_sta) (hts _ z_in_ini) hK hP (z_D hap) hS r0 r1 0 0 (f := S.1 r0) (g := S.1 r1) (ty := .int) (by rw [z_ws_get (by simpa [Nat.blt_eq] using hr0)]; simp only [z_en, hc0]) (by rw [z_ws_get (by simpa [Nat.blt_eq] using hr1)]; simp only [z_en, hc1]) rfl rfl rfl h1 h2 h3 h4 h5 (fun _ _ => rfl) (by simp only [z_rm]; omega) ?_ hd (fun H1 locs1 hP1 hD1 hS1 => ?_)
  · have : nativeFrameWords "java/lang/System" "arraycopy" 5 + 11 ≤ 56 := z_nfw
    simp only [z_rm]
    omega
  · rw [z_ws_set (S' := z_uf S r1 (va_cpy (S.1 r0) (S.1 r1) sp.toNatClampNeg dp.toNatClampNeg x.toNatClampNeg)) (by simp only [z_en, hc1]; simp [z_uf]) z_en_uf] at hP1
    exact kk H1 locs1 hP1 hS1
end
