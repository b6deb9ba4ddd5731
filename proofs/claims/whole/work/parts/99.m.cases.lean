/-! the law's rules and cases, by a program of ours (wip/whole/gen4.py) -/
def La (p : Program) (l : Launch) (e : Env) (s : State) (m : MethodId) (below : List Frame) (meth : Method) (c : Code) (b : Nat) (D : va_G) (cA : ClassId) (adX adM : Nat → Nat) (ls : Array Slot) (pc : Nat) (st : List Value) (S T : zS) : Prop :=
  ∀ (H : Heap) (locs : List Loc), va_P D zcl (z_ws (l, wX, D, adX, cA) S) H → va_P D zcl (z_ws (l, wM, D, adM, cA) T) H → va_S (fun q : Nat => s.heap.size ≤ q) s.heap H locs → W p l e room_1 s m #[Value.ref b] below meth c H locs 72 7094 (lw_Z below #[Value.ref b] s) (F0 m pc ls st)
def lw_F (p : Program) (l : Launch) (s : State) (m : MethodId) (meth : Method) (c : Code) (b L : Nat) (xs : Nat → Int32) (D : va_G) (cA : ClassId) (adX adM : Nat → Nat) : Prop := lw_At p s m meth c b L xs ∧ lw_C l D cA wX wM adX adM s ∧ lw_C l D cA wM wX adM adX s
def lw_L (b : Nat) (adX adM : Nat → Nat) (i : Nat) (ls : Array Slot) : Prop := lv_has ls 4 [(0, .ref b), (1, .ref (adX 0)), (2, .ref (adM 0)), (3, .int (nI i))]
section
variable {p : Program} {l : Launch} {e : Env} {s : State} {m : MethodId} {below : List Frame} {meth : Method} {c : Code} {b L : Nat} {xs : Nat → Int32} {D : va_G} {cA : ClassId} {adX adM : Nat → Nat} {ls : Array Slot} {i pc n : Nat} {st : List Value} {S T : zS}
theorem l_ldx (F : lw_F p l s m meth c b L xs D cA adX adM) (hl : lw_L b adX adM i ls) (h : c_at k_law.2 pc = some (.aload_n 1, n)) (hn : n = pc + 1) (kk : La p l e s m below meth c b D cA adX adM ls n (.ref (adX 0) :: st) S T) : La p l e s m below meth c b D cA adX adM ls pc st S T := by
  intro H locs hP hP2 hS
  have hd := c_get oki_law h
  subst hn
  rw [Nat.add_sub_cancel_left] at hd
  exact lv_aload_n F.1.1 F.1.2.1 hd rfl (lv_at hl 1 rfl) (kk H locs hP hP2 hS)
theorem l_ldm (F : lw_F p l s m meth c b L xs D cA adX adM) (hl : lw_L b adX adM i ls) (h : c_at k_law.2 pc = some (.aload_n 2, n)) (hn : n = pc + 1) (kk : La p l e s m below meth c b D cA adX adM ls n (.ref (adM 0) :: st) S T) : La p l e s m below meth c b D cA adX adM ls pc st S T := by
  intro H locs hP hP2 hS
  have hd := c_get oki_law h
  subst hn
  rw [Nat.add_sub_cancel_left] at hd
  exact lv_aload_n F.1.1 F.1.2.1 hd rfl (lv_at hl 2 rfl) (kk H locs hP hP2 hS)
theorem l_arg (F : lw_F p l s m meth c b L xs D cA adX adM) (hl : lw_L b adX adM i ls) (hi : i + 5 ≤ L) (hL : L ≤ 2560) {v : Int} (k : Nat) (hk : k < 5) (hv : Int32.ofInt v = nI k) (h0 : c_at k_law.2 pc = some (.aload_n 0, pc + 1)) (h1 : c_at k_law.2 (pc + 1) = some (.iload_n 3, pc + 2)) (h2 : c_at k_law.2 (pc + 2) = some (.iconst v, pc + 3)) (h3 : c_at k_law.2 (pc + 3) = some (.iadd, pc + 4)) (h4 : c_at k_law.2 (pc + 4) = some (.iaload, pc + 5)) (hn : n = pc + 5) (kk : La p l e s m below meth c b D cA adX adM ls n (.int (xs (i + k)) :: st) S T) : La p l e s m below meth c b D cA adX adM ls pc st S T := by
  intro H locs hP hP2 hS
  have d0 := c_get oki_law h0
  have d1 := c_get oki_law h1
  have d2 := c_get oki_law h2
  have d3 := c_get oki_law h3
  have d4 := c_get oki_law h4
  subst hn
  rw [show pc + 1 - pc = 1 by omega] at d0
  rw [show pc + 2 - (pc + 1) = 1 by omega] at d1
  rw [show pc + 3 - (pc + 2) = 1 by omega] at d2
  rw [show pc + 4 - (pc + 3) = 1 by omega] at d3
  rw [show pc + 5 - (pc + 4) = 1 by omega] at d4
  obtain ⟨hx, hb, hr, hml, hown, hts, hX, hbl, hlocks, hgv⟩ := F.1
  refine lv_aload_n hx hb d0 rfl (lv_at hl 0 rfl) ?_
  refine lv_iload_n hx hb d1 rfl (lv_at hl 3 rfl) ?_
  refine lv_iconst hx hb d2 rfl ?_
  refine lv_iadd hx hb d3 ?_
  have e1 : nI i + Int32.ofInt v = nI (i + k) := by rw [hv, nI_add]
  rw [e1]
  refine va_sld hx hb hX hbl (Nat.not_le.mpr hbl) hS (vp_in_nI (by omega) (by omega)) d4 ?_
  rw [nI_clamp (by omega)]
  exact kk H locs hP hP2 hS
theorem l_cx (F : lw_F p l s m meth c b L xs D cA adX adM) (hl : lw_L b adX adM i ls) {d idx i9 : Nat} {y' : zM} {as rest : List Value} {Post' : Value → zS → Prop} (h : c_at k_law.2 pc = some (.invokevirtual idx, n)) (hn : n = pc + 3) (hs : Sp (l, wX, D, adX, cA) d y' (.ref 0 :: as) S Post') (hd : Nat.ble d 60 = true) (hst0 : st = as.reverse ++ .ref (adX 0) :: rest) (has : as.map (z_v adX) = as) (hC : y'.1.1.cls = "SignBook") (hv : z_wi i9 (.methodLink "SignBookLaw" idx y'.1.1) = true) (hsta : z_stat y'.1 = false) (hna : as.length = y'.1.2.2.2.2.1) (hm : Nat.ble y'.1.2.2.1 45 = true) (hcat : Nat.ble (rest.map fun v => v.category).sum 8 = true)
    (kk : ∀ v S', Post' v S' → La p l e s m below meth c b D cA adX adM ls n ((z_o v).toList ++ rest) S' T) : La p l e s m below meth c b D cA adX adM ls pc st S T := by
  intro H locs hP hP2 hS
  have hdg := c_get oki_law h
  subst hn
  subst hst0
  rw [Nat.add_sub_cancel_left] at hdg
  obtain ⟨hx, hb, hr, hml, hown, hts, -⟩ := F.1
  exact w_cv (ci := 8) hx hb hml hown (fun u hu => hts u (z_T_in hu)) F.2.1 hl.1 hdg hs (Nat.le_of_ble_eq_true hd) has (by decide) rfl (by rw [hC]; rfl) hv hsta hna hm (Nat.le_of_ble_eq_true hcat) (by decide) (by decide) hP hP2 hS (fun v S' H1 locs1 _ hp hP1 hP21 hS1 => kk v S' hp H1 locs1 hP1 hP21 hS1)
theorem l_cm (F : lw_F p l s m meth c b L xs D cA adX adM) (hl : lw_L b adX adM i ls) {d idx i9 : Nat} {y' : zM} {as rest : List Value} {Post' : Value → zS → Prop} (h : c_at k_law.2 pc = some (.invokevirtual idx, n)) (hn : n = pc + 3) (hs : Sp (l, wM, D, adM, cA) d y' (.ref 0 :: as) T Post') (hd : Nat.ble d 60 = true) (hst0 : st = as.reverse ++ .ref (adM 0) :: rest) (has : as.map (z_v adM) = as) (hC : y'.1.1.cls = "SignBookModel") (hv : z_wi i9 (.methodLink "SignBookLaw" idx y'.1.1) = true) (hsta : z_stat y'.1 = false) (hna : as.length = y'.1.2.2.2.2.1) (hm : Nat.ble y'.1.2.2.1 45 = true) (hcat : Nat.ble (rest.map fun v => v.category).sum 8 = true)
    (kk : ∀ v T', Post' v T' → La p l e s m below meth c b D cA adX adM ls n ((z_o v).toList ++ rest) S T') : La p l e s m below meth c b D cA adX adM ls pc st S T := by
  intro H locs hP hP2 hS
  have hdg := c_get oki_law h
  subst hn
  subst hst0
  rw [Nat.add_sub_cancel_left] at hdg
  obtain ⟨hx, hb, hr, hml, hown, hts, -⟩ := F.1
  exact w_cv (ci := 9) hx hb hml hown (fun u hu => hts u (z_T_in hu)) F.2.2 hl.1 hdg hs (Nat.le_of_ble_eq_true hd) has (by decide) rfl (by rw [hC]; rfl) hv hsta hna hm (Nat.le_of_ble_eq_true hcat) (by decide) (by decide) hP2 hP hS (fun v S' H1 locs1 _ hp hP1 hP21 hS1 => kk v S' hp H1 locs1 hP21 hP1 hS1)
theorem l_eq (F : lw_F p l s m meth c b L xs D cA adX adM) {v : Int32} {off : Int} (h : c_at k_law.2 pc = some (.if_icmp .eq off, n)) (hn : n = pc + 3) (ht : (pc : Int) + off = ((826 : Nat) : Int)) (kk : La p l e s m below meth c b D cA adX adM ls 826 st S T) : La p l e s m below meth c b D cA adX adM ls pc (.int v :: .int v :: st) S T := by
  intro H locs hP hP2 hS
  have hd := c_get oki_law h
  subst hn
  rw [Nat.add_sub_cancel_left] at hd
  exact lv_icmp_eq F.1.1 F.1.2.1 hd ht (fun _ => kk H locs hP hP2 hS) (fun q => absurd rfl q)
theorem l_c (F : lw_F p l s m meth c b L xs D cA adX adM) {v : Int} {x : Int32} (h : c_at k_law.2 pc = some (.iconst v, n)) (hn : n = pc + 1) (hv : Int32.ofInt v = x) (kk : La p l e s m below meth c b D cA adX adM ls n (.int x :: st) S T) : La p l e s m below meth c b D cA adX adM ls pc st S T := by
  intro H locs hP hP2 hS
  have hd := c_get oki_law h
  subst hn
  rw [Nat.add_sub_cancel_left] at hd
  exact lv_iconst F.1.1 F.1.2.1 hd hv (kk H locs hP hP2 hS)
theorem l_go (F : lw_F p l s m meth c b L xs D cA adX adM) {off : Int} {t : Nat} (h : c_at k_law.2 pc = some (.goto off, n)) (hn : n = pc + 3) (ht : (pc : Int) + off = (t : Int)) (kk : La p l e s m below meth c b D cA adX adM ls t st S T) : La p l e s m below meth c b D cA adX adM ls pc st S T := by
  intro H locs hP hP2 hS
  have hd := c_get oki_law h
  subst hn
  rw [Nat.add_sub_cancel_left] at hd
  exact lv_goto F.1.1 F.1.2.1 hd ht (kk H locs hP hP2 hS)
theorem l_if1 (F : lw_F p l s m meth c b L xs D cA adX adM) {x : Int32} {off : Int} {t : Nat} (h : c_at k_law.2 pc = some (.ifCond .eq off, n)) (hn : n = pc + 3) (ht : (pc : Int) + off = (t : Int)) (hx0 : x = 0) (kk : La p l e s m below meth c b D cA adX adM ls t st S T) : La p l e s m below meth c b D cA adX adM ls pc (.int x :: st) S T := by
  intro H locs hP hP2 hS
  have hd := c_get oki_law h
  subst hn
  rw [Nat.add_sub_cancel_left] at hd
  exact lv_if_eq F.1.1 F.1.2.1 hd ht (fun _ => kk H locs hP hP2 hS) (fun q => absurd hx0 q)
theorem l_if0 (F : lw_F p l s m meth c b L xs D cA adX adM) {x : Int32} {off : Int} {t : Nat} (h : c_at k_law.2 pc = some (.ifCond .eq off, n)) (hn : n = pc + 3) (ht : (pc : Int) + off = (t : Int)) (hx0 : ¬ x = 0) (kk : La p l e s m below meth c b D cA adX adM ls n st S T) : La p l e s m below meth c b D cA adX adM ls pc (.int x :: st) S T := by
  intro H locs hP hP2 hS
  have hd := c_get oki_law h
  subst hn
  rw [Nat.add_sub_cancel_left] at hd
  exact lv_if_eq F.1.1 F.1.2.1 hd ht (fun q => absurd q hx0) (fun _ => kk H locs hP hP2 hS)
theorem l_lcmp (F : lw_F p l s m meth c b L xs D cA adX adM) {x : Int64} (h : c_at k_law.2 pc = some (.lcmp, n)) (hn : n = pc + 1) (kk : La p l e s m below meth c b D cA adX adM ls n (.int 0 :: st) S T) : La p l e s m below meth c b D cA adX adM ls pc (.long x :: .long x :: st) S T := by
  intro H locs hP hP2 hS
  have hd := c_get oki_law h
  subst hn
  rw [Nat.add_sub_cancel_left] at hd
  refine W.lcmp F.1.1 F.1.2.1 hd ?_
  have e0 : lg_cmp x x = 0 := by simp [lg_cmp]
  rw [e0]
  exact kk H locs hP hP2 hS
variable {mm : Mt}
set_option maxRecDepth 20000 in
theorem lc_letter (F : lw_F p l s m meth c b L xs D cA adX adM) (hl : lw_L b adX adM i ls) (hi : i + 5 ≤ L) (hL : L ≤ 2560) (hx : InvX S mm) (hy : InvM T mm) (hm : MOk mm) (hr : mR mm < 4096) (K : ∀ S' T' m', InvX S' m' → InvM T' m' → MOk m' → mR m' ≤ mR mm + 1 → La p l e s m below meth c b D cA adX adM ls 826 [] S' T') : La p l e s m below meth c b D cA adX adM ls 140 [] S T := by
  refine (l_ldx F hl rfl rfl (l_arg F hl hi hL 1 (by decide) rfl rfl rfl rfl rfl rfl rfl (l_cx (i9 := 333) F hl rfl rfl (x_letter hx hm) rfl rfl rfl rfl (by decide +kernel) rfl rfl rfl rfl (fun v S' hp => ?_))))
  obtain ⟨rfl, hx⟩ := hp
  show La p l e s m below meth c b D cA adX adM ls 149 [.int _] _ _
  refine (l_ldm F hl rfl rfl (l_arg F hl hi hL 1 (by decide) rfl rfl rfl rfl rfl rfl rfl (l_cm (i9 := 1073) F hl rfl rfl (y_letter hy hm) rfl rfl rfl rfl (by decide +kernel) rfl rfl rfl rfl (fun v S' hp => ?_))))
  obtain ⟨rfl, hy⟩ := hp
  show La p l e s m below meth c b D cA adX adM ls 158 [.int _, .int _] _ _
  exact l_eq F rfl rfl rfl (K _ _ _ hx hy (ok_letter hm) (by rw [r_letter]; exact Nat.le_succ _))
set_option maxRecDepth 20000 in
theorem lc_blank (F : lw_F p l s m meth c b L xs D cA adX adM) (hl : lw_L b adX adM i ls) (hi : i + 5 ≤ L) (hL : L ≤ 2560) (hx : InvX S mm) (hy : InvM T mm) (hm : MOk mm) (hr : mR mm < 4096) (K : ∀ S' T' m', InvX S' m' → InvM T' m' → MOk m' → mR m' ≤ mR mm + 1 → La p l e s m below meth c b D cA adX adM ls 826 [] S' T') : La p l e s m below meth c b D cA adX adM ls 163 [] S T := by
  refine (l_ldx F hl rfl rfl (l_cx (i9 := 341) F hl rfl rfl (x_blank hx) rfl rfl rfl rfl (by decide +kernel) rfl rfl rfl rfl (fun v S' hp => ?_)))
  obtain ⟨rfl, hx⟩ := hp
  show La p l e s m below meth c b D cA adX adM ls 167 [.int _] _ _
  refine (l_ldm F hl rfl rfl (l_cm (i9 := 1081) F hl rfl rfl (y_blank hy) rfl rfl rfl rfl (by decide +kernel) rfl rfl rfl rfl (fun v S' hp => ?_)))
  obtain ⟨rfl, hy⟩ := hp
  show La p l e s m below meth c b D cA adX adM ls 171 [.int _, .int _] _ _
  exact l_eq F rfl rfl rfl (K _ _ _ hx hy (ok_blank hm) (Nat.le_succ _))
set_option maxRecDepth 20000 in
theorem lc_fault (F : lw_F p l s m meth c b L xs D cA adX adM) (hl : lw_L b adX adM i ls) (hi : i + 5 ≤ L) (hL : L ≤ 2560) (hx : InvX S mm) (hy : InvM T mm) (hm : MOk mm) (hr : mR mm < 4096) (K : ∀ S' T' m', InvX S' m' → InvM T' m' → MOk m' → mR m' ≤ mR mm + 1 → La p l e s m below meth c b D cA adX adM ls 826 [] S' T') : La p l e s m below meth c b D cA adX adM ls 176 [] S T := by
  refine (l_ldx F hl rfl rfl (l_cx (i9 := 349) F hl rfl rfl (x_fault hx hm) rfl rfl rfl rfl (by decide +kernel) rfl rfl rfl rfl (fun v S' hp => ?_)))
  obtain ⟨rfl, hx⟩ := hp
  show La p l e s m below meth c b D cA adX adM ls 180 [.int _] _ _
  refine (l_ldm F hl rfl rfl (l_cm (i9 := 1085) F hl rfl rfl (y_fault hy hm) rfl rfl rfl rfl (by decide +kernel) rfl rfl rfl rfl (fun v S' hp => ?_)))
  obtain ⟨rfl, hy⟩ := hp
  show La p l e s m below meth c b D cA adX adM ls 184 [.int _, .int _] _ _
  exact l_eq F rfl rfl rfl (K _ _ _ hx hy hm (Nat.le_succ _))
set_option maxRecDepth 20000 in
theorem lc_book (F : lw_F p l s m meth c b L xs D cA adX adM) (hl : lw_L b adX adM i ls) (hi : i + 5 ≤ L) (hL : L ≤ 2560) (hx : InvX S mm) (hy : InvM T mm) (hm : MOk mm) (hr : mR mm < 4096) (K : ∀ S' T' m', InvX S' m' → InvM T' m' → MOk m' → mR m' ≤ mR mm + 1 → La p l e s m below meth c b D cA adX adM ls 826 [] S' T') : La p l e s m below meth c b D cA adX adM ls 189 [] S T := by
  refine (l_ldx F hl rfl rfl (l_cx (i9 := 523) F hl rfl rfl (x_book hx hm) rfl rfl rfl rfl (by decide +kernel) rfl rfl rfl rfl (fun v S' hp => ?_)))
  obtain ⟨rfl, hx⟩ := hp
  show La p l e s m below meth c b D cA adX adM ls 193 [.int _] _ _
  refine (l_ldm F hl rfl rfl (l_cm (i9 := 1134) F hl rfl rfl (y_book hy hm) rfl rfl rfl rfl (by decide +kernel) rfl rfl rfl rfl (fun v S' hp => ?_)))
  obtain ⟨rfl, hy⟩ := hp
  show La p l e s m below meth c b D cA adX adM ls 197 [.int _, .int _] _ _
  exact l_eq F rfl rfl rfl (K _ _ _ hx hy (ok_book hm hr) r_book)
set_option maxRecDepth 20000 in
theorem lc_about (F : lw_F p l s m meth c b L xs D cA adX adM) (hl : lw_L b adX adM i ls) (hi : i + 5 ≤ L) (hL : L ≤ 2560) (hx : InvX S mm) (hy : InvM T mm) (hm : MOk mm) (hr : mR mm < 4096) (K : ∀ S' T' m', InvX S' m' → InvM T' m' → MOk m' → mR m' ≤ mR mm + 1 → La p l e s m below meth c b D cA adX adM ls 826 [] S' T') : La p l e s m below meth c b D cA adX adM ls 202 [] S T := by
  refine (l_ldx F hl rfl rfl (l_arg F hl hi hL 1 (by decide) rfl rfl rfl rfl rfl rfl rfl (l_arg F hl hi hL 2 (by decide) rfl rfl rfl rfl rfl rfl rfl (l_cx (i9 := 594) F hl rfl rfl (x_about hx hm) rfl rfl rfl rfl (by decide +kernel) rfl rfl rfl rfl (fun v S' hp => ?_)))))
  obtain ⟨rfl, rfl⟩ := hp
  show La p l e s m below meth c b D cA adX adM ls 216 [.int _] _ _
  refine (l_ldm F hl rfl rfl (l_arg F hl hi hL 1 (by decide) rfl rfl rfl rfl rfl rfl rfl (l_arg F hl hi hL 2 (by decide) rfl rfl rfl rfl rfl rfl rfl (l_cm (i9 := 1206) F hl rfl rfl (y_about hy hm) rfl rfl rfl rfl (by decide +kernel) rfl rfl rfl rfl (fun v S' hp => ?_)))))
  obtain ⟨rfl, rfl⟩ := hp
  show La p l e s m below meth c b D cA adX adM ls 230 [.int _, .int _] _ _
  exact l_eq F rfl rfl rfl (K _ _ _ hx hy hm (Nat.le_succ _))
set_option maxRecDepth 20000 in
theorem lc_member (F : lw_F p l s m meth c b L xs D cA adX adM) (hl : lw_L b adX adM i ls) (hi : i + 5 ≤ L) (hL : L ≤ 2560) (hx : InvX S mm) (hy : InvM T mm) (hm : MOk mm) (hr : mR mm < 4096) (K : ∀ S' T' m', InvX S' m' → InvM T' m' → MOk m' → mR m' ≤ mR mm + 1 → La p l e s m below meth c b D cA adX adM ls 826 [] S' T') : La p l e s m below meth c b D cA adX adM ls 235 [] S T := by
  refine (l_ldx F hl rfl rfl (l_arg F hl hi hL 1 (by decide) rfl rfl rfl rfl rfl rfl rfl (l_arg F hl hi hL 2 (by decide) rfl rfl rfl rfl rfl rfl rfl (l_arg F hl hi hL 3 (by decide) rfl rfl rfl rfl rfl rfl rfl (l_cx (i9 := 623) F hl rfl rfl (x_member hx hm) rfl rfl rfl rfl (by decide +kernel) rfl rfl rfl rfl (fun v S' hp => ?_))))))
  obtain ⟨rfl, hx⟩ := hp
  show La p l e s m below meth c b D cA adX adM ls 254 [.int _] _ _
  refine (l_ldm F hl rfl rfl (l_arg F hl hi hL 1 (by decide) rfl rfl rfl rfl rfl rfl rfl (l_arg F hl hi hL 2 (by decide) rfl rfl rfl rfl rfl rfl rfl (l_arg F hl hi hL 3 (by decide) rfl rfl rfl rfl rfl rfl rfl (l_cm (i9 := 1222) F hl rfl rfl (y_member hy hm) rfl rfl rfl rfl (by decide +kernel) rfl rfl rfl rfl (fun v S' hp => ?_))))))
  obtain ⟨rfl, hy⟩ := hp
  show La p l e s m below meth c b D cA adX adM ls 273 [.int _, .int _] _ _
  exact l_eq F rfl rfl rfl (K _ _ _ hx hy hm (Nat.le_succ _))
set_option maxRecDepth 20000 in
theorem lc_as (F : lw_F p l s m meth c b L xs D cA adX adM) (hl : lw_L b adX adM i ls) (hi : i + 5 ≤ L) (hL : L ≤ 2560) (hx : InvX S mm) (hy : InvM T mm) (hm : MOk mm) (hr : mR mm < 4096) (K : ∀ S' T' m', InvX S' m' → InvM T' m' → MOk m' → mR m' ≤ mR mm + 1 → La p l e s m below meth c b D cA adX adM ls 826 [] S' T') : La p l e s m below meth c b D cA adX adM ls 278 [] S T := by
  refine (l_ldx F hl rfl rfl (l_arg F hl hi hL 1 (by decide) rfl rfl rfl rfl rfl rfl rfl (l_arg F hl hi hL 2 (by decide) rfl rfl rfl rfl rfl rfl rfl (l_arg F hl hi hL 3 (by decide) rfl rfl rfl rfl rfl rfl rfl (l_cx (i9 := 660) F hl rfl rfl (x_as hx) rfl rfl rfl rfl (by decide +kernel) rfl rfl rfl rfl (fun v S' hp => ?_))))))
  obtain ⟨rfl, rfl⟩ := hp
  show La p l e s m below meth c b D cA adX adM ls 297 [.int _] _ _
  refine (l_ldm F hl rfl rfl (l_arg F hl hi hL 1 (by decide) rfl rfl rfl rfl rfl rfl rfl (l_arg F hl hi hL 2 (by decide) rfl rfl rfl rfl rfl rfl rfl (l_arg F hl hi hL 3 (by decide) rfl rfl rfl rfl rfl rfl rfl (l_cm (i9 := 1252) F hl rfl rfl (y_as hy hm) rfl rfl rfl rfl (by decide +kernel) rfl rfl rfl rfl (fun v S' hp => ?_))))))
  obtain ⟨rfl, rfl⟩ := hp
  show La p l e s m below meth c b D cA adX adM ls 316 [.int _, .int _] _ _
  exact l_eq F rfl rfl rfl (K _ _ _ hx hy hm (Nat.le_succ _))
set_option maxRecDepth 20000 in
theorem lc_change (F : lw_F p l s m meth c b L xs D cA adX adM) (hl : lw_L b adX adM i ls) (hi : i + 5 ≤ L) (hL : L ≤ 2560) (hx : InvX S mm) (hy : InvM T mm) (hm : MOk mm) (hr : mR mm < 4096) (K : ∀ S' T' m', InvX S' m' → InvM T' m' → MOk m' → mR m' ≤ mR mm + 1 → La p l e s m below meth c b D cA adX adM ls 826 [] S' T') : La p l e s m below meth c b D cA adX adM ls 321 [] S T := by
  refine (l_ldx F hl rfl rfl (l_arg F hl hi hL 1 (by decide) rfl rfl rfl rfl rfl rfl rfl (l_arg F hl hi hL 2 (by decide) rfl rfl rfl rfl rfl rfl rfl (l_arg F hl hi hL 3 (by decide) rfl rfl rfl rfl rfl rfl rfl (l_cx (i9 := 667) F hl rfl rfl (x_change hx hm) rfl rfl rfl rfl (by decide +kernel) rfl rfl rfl rfl (fun v S' hp => ?_))))))
  obtain ⟨rfl, hx⟩ := hp
  show La p l e s m below meth c b D cA adX adM ls 340 [.int _] _ _
  refine (l_ldm F hl rfl rfl (l_arg F hl hi hL 1 (by decide) rfl rfl rfl rfl rfl rfl rfl (l_arg F hl hi hL 2 (by decide) rfl rfl rfl rfl rfl rfl rfl (l_arg F hl hi hL 3 (by decide) rfl rfl rfl rfl rfl rfl rfl (l_cm (i9 := 1257) F hl rfl rfl (y_change hy hm) rfl rfl rfl rfl (by decide +kernel) rfl rfl rfl rfl (fun v S' hp => ?_))))))
  obtain ⟨rfl, hy⟩ := hp
  show La p l e s m below meth c b D cA adX adM ls 359 [.int _, .int _] _ _
  exact l_eq F rfl rfl rfl (K _ _ _ hx hy (ok_change hm) (by rw [r_change]; exact Nat.le_succ _))
set_option maxRecDepth 20000 in
theorem lc_type (F : lw_F p l s m meth c b L xs D cA adX adM) (hl : lw_L b adX adM i ls) (hi : i + 5 ≤ L) (hL : L ≤ 2560) (hx : InvX S mm) (hy : InvM T mm) (hm : MOk mm) (hr : mR mm < 4096) (K : ∀ S' T' m', InvX S' m' → InvM T' m' → MOk m' → mR m' ≤ mR mm + 1 → La p l e s m below meth c b D cA adX adM ls 826 [] S' T') : La p l e s m below meth c b D cA adX adM ls 364 [] S T := by
  refine (l_ldx F hl rfl rfl (l_arg F hl hi hL 1 (by decide) rfl rfl rfl rfl rfl rfl rfl (l_cx (i9 := 675) F hl rfl rfl (x_type hx hm) rfl rfl rfl rfl (by decide +kernel) rfl rfl rfl rfl (fun v S' hp => ?_))))
  obtain ⟨rfl, hx⟩ := hp
  show La p l e s m below meth c b D cA adX adM ls 373 [.int _] _ _
  refine (l_ldm F hl rfl rfl (l_arg F hl hi hL 1 (by decide) rfl rfl rfl rfl rfl rfl rfl (l_cm (i9 := 1261) F hl rfl rfl (y_type hy hm) rfl rfl rfl rfl (by decide +kernel) rfl rfl rfl rfl (fun v S' hp => ?_))))
  obtain ⟨rfl, hy⟩ := hp
  show La p l e s m below meth c b D cA adX adM ls 382 [.int _, .int _] _ _
  exact l_eq F rfl rfl rfl (K _ _ _ hx hy (ok_type hm) (by rw [r_type]; exact Nat.le_succ _))
set_option maxRecDepth 20000 in
theorem lc_read (F : lw_F p l s m meth c b L xs D cA adX adM) (hl : lw_L b adX adM i ls) (hi : i + 5 ≤ L) (hL : L ≤ 2560) (hx : InvX S mm) (hy : InvM T mm) (hm : MOk mm) (hr : mR mm < 4096) (K : ∀ S' T' m', InvX S' m' → InvM T' m' → MOk m' → mR m' ≤ mR mm + 1 → La p l e s m below meth c b D cA adX adM ls 826 [] S' T') : La p l e s m below meth c b D cA adX adM ls 387 [] S T := by
  refine (l_ldx F hl rfl rfl (l_arg F hl hi hL 1 (by decide) rfl rfl rfl rfl rfl rfl rfl (l_arg F hl hi hL 2 (by decide) rfl rfl rfl rfl rfl rfl rfl (l_arg F hl hi hL 3 (by decide) rfl rfl rfl rfl rfl rfl rfl (l_cx (i9 := 701) F hl rfl rfl (x_read hx hm) rfl rfl rfl rfl (by decide +kernel) rfl rfl rfl rfl (fun v S' hp => ?_))))))
  obtain ⟨rfl, hx⟩ := hp
  show La p l e s m below meth c b D cA adX adM ls 406 [.int _] _ _
  refine (l_ldm F hl rfl rfl (l_arg F hl hi hL 1 (by decide) rfl rfl rfl rfl rfl rfl rfl (l_arg F hl hi hL 2 (by decide) rfl rfl rfl rfl rfl rfl rfl (l_arg F hl hi hL 3 (by decide) rfl rfl rfl rfl rfl rfl rfl (l_cm (i9 := 1269) F hl rfl rfl (y_read hy hm) rfl rfl rfl rfl (by decide +kernel) rfl rfl rfl rfl (fun v S' hp => ?_))))))
  obtain ⟨rfl, hy⟩ := hp
  show La p l e s m below meth c b D cA adX adM ls 425 [.int _, .int _] _ _
  exact l_eq F rfl rfl rfl (K _ _ _ hx hy (ok_read hm) (by rw [r_read]; exact Nat.le_succ _))
set_option maxRecDepth 20000 in
theorem lc_lift (F : lw_F p l s m meth c b L xs D cA adX adM) (hl : lw_L b adX adM i ls) (hi : i + 5 ≤ L) (hL : L ≤ 2560) (hx : InvX S mm) (hy : InvM T mm) (hm : MOk mm) (hr : mR mm < 4096) (K : ∀ S' T' m', InvX S' m' → InvM T' m' → MOk m' → mR m' ≤ mR mm + 1 → La p l e s m below meth c b D cA adX adM ls 826 [] S' T') : La p l e s m below meth c b D cA adX adM ls 430 [] S T := by
  refine (l_ldx F hl rfl rfl (l_arg F hl hi hL 1 (by decide) rfl rfl rfl rfl rfl rfl rfl (l_arg F hl hi hL 2 (by decide) rfl rfl rfl rfl rfl rfl rfl (l_cx (i9 := 742) F hl rfl rfl (x_lift hx hm) rfl rfl rfl rfl (by decide +kernel) rfl rfl rfl rfl (fun v S' hp => ?_)))))
  obtain ⟨rfl, hx⟩ := hp
  show La p l e s m below meth c b D cA adX adM ls 444 [.int _] _ _
  refine (l_ldm F hl rfl rfl (l_arg F hl hi hL 1 (by decide) rfl rfl rfl rfl rfl rfl rfl (l_arg F hl hi hL 2 (by decide) rfl rfl rfl rfl rfl rfl rfl (l_cm (i9 := 1277) F hl rfl rfl (y_lift hy hm) rfl rfl rfl rfl (by decide +kernel) rfl rfl rfl rfl (fun v S' hp => ?_)))))
  obtain ⟨rfl, hy⟩ := hp
  show La p l e s m below meth c b D cA adX adM ls 458 [.int _, .int _] _ _
  exact l_eq F rfl rfl rfl (K _ _ _ hx hy (ok_lift hm) (by rw [r_lift]; exact Nat.le_succ _))
set_option maxRecDepth 20000 in
theorem lc_rounds (F : lw_F p l s m meth c b L xs D cA adX adM) (hl : lw_L b adX adM i ls) (hi : i + 5 ≤ L) (hL : L ≤ 2560) (hx : InvX S mm) (hy : InvM T mm) (hm : MOk mm) (hr : mR mm < 4096) (K : ∀ S' T' m', InvX S' m' → InvM T' m' → MOk m' → mR m' ≤ mR mm + 1 → La p l e s m below meth c b D cA adX adM ls 826 [] S' T') : La p l e s m below meth c b D cA adX adM ls 463 [] S T := by
  refine (l_ldx F hl rfl rfl (l_cx (i9 := 746) F hl rfl rfl (x_rounds hx hm) rfl rfl rfl rfl (by decide +kernel) rfl rfl rfl rfl (fun v S' hp => ?_)))
  obtain ⟨rfl, rfl⟩ := hp
  show La p l e s m below meth c b D cA adX adM ls 467 [.int _] _ _
  refine (l_ldm F hl rfl rfl (l_cm (i9 := 1165) F hl rfl rfl (y_rounds hy hm) rfl rfl rfl rfl (by decide +kernel) rfl rfl rfl rfl (fun v S' hp => ?_)))
  obtain ⟨rfl, rfl⟩ := hp
  show La p l e s m below meth c b D cA adX adM ls 471 [.int _, .int _] _ _
  exact l_eq F rfl rfl rfl (K _ _ _ hx hy hm (Nat.le_succ _))
set_option maxRecDepth 20000 in
theorem lc_sign (F : lw_F p l s m meth c b L xs D cA adX adM) (hl : lw_L b adX adM i ls) (hi : i + 5 ≤ L) (hL : L ≤ 2560) (hx : InvX S mm) (hy : InvM T mm) (hm : MOk mm) (hr : mR mm < 4096) (K : ∀ S' T' m', InvX S' m' → InvM T' m' → MOk m' → mR m' ≤ mR mm + 1 → La p l e s m below meth c b D cA adX adM ls 826 [] S' T') : La p l e s m below meth c b D cA adX adM ls 476 [] S T := by
  refine (l_ldx F hl rfl rfl (l_arg F hl hi hL 1 (by decide) rfl rfl rfl rfl rfl rfl rfl (l_arg F hl hi hL 2 (by decide) rfl rfl rfl rfl rfl rfl rfl (l_cx (i9 := 750) F hl rfl rfl (x_sign hx hm) rfl rfl rfl rfl (by decide +kernel) rfl rfl rfl rfl (fun v S' hp => ?_)))))
  obtain ⟨rfl, rfl⟩ := hp
  show La p l e s m below meth c b D cA adX adM ls 490 [.int _] _ _
  refine (l_ldm F hl rfl rfl (l_arg F hl hi hL 1 (by decide) rfl rfl rfl rfl rfl rfl rfl (l_arg F hl hi hL 2 (by decide) rfl rfl rfl rfl rfl rfl rfl (l_cm (i9 := 1281) F hl rfl rfl (y_sign hy hm) rfl rfl rfl rfl (by decide +kernel) rfl rfl rfl rfl (fun v S' hp => ?_)))))
  obtain ⟨rfl, rfl⟩ := hp
  show La p l e s m below meth c b D cA adX adM ls 504 [.int _, .int _] _ _
  exact l_eq F rfl rfl rfl (K _ _ _ hx hy hm (Nat.le_succ _))
set_option maxRecDepth 20000 in
theorem lc_suits (F : lw_F p l s m meth c b L xs D cA adX adM) (hl : lw_L b adX adM i ls) (hi : i + 5 ≤ L) (hL : L ≤ 2560) (hx : InvX S mm) (hy : InvM T mm) (hm : MOk mm) (hr : mR mm < 4096) (K : ∀ S' T' m', InvX S' m' → InvM T' m' → MOk m' → mR m' ≤ mR mm + 1 → La p l e s m below meth c b D cA adX adM ls 826 [] S' T') : La p l e s m below meth c b D cA adX adM ls 509 [] S T := by
  refine (l_ldx F hl rfl rfl (l_arg F hl hi hL 1 (by decide) rfl rfl rfl rfl rfl rfl rfl (l_arg F hl hi hL 2 (by decide) rfl rfl rfl rfl rfl rfl rfl (l_cx (i9 := 755) F hl rfl rfl (x_suits hx hm) rfl rfl rfl rfl (by decide +kernel) rfl rfl rfl rfl (fun v S' hp => ?_)))))
  obtain ⟨rfl, hx⟩ := hp
  show La p l e s m below meth c b D cA adX adM ls 523 [.int _] _ _
  refine (l_ldm F hl rfl rfl (l_arg F hl hi hL 1 (by decide) rfl rfl rfl rfl rfl rfl rfl (l_arg F hl hi hL 2 (by decide) rfl rfl rfl rfl rfl rfl rfl (l_cm (i9 := 1169) F hl rfl rfl (y_suits hy hm) rfl rfl rfl rfl (by decide +kernel) rfl rfl rfl rfl (fun v S' hp => ?_)))))
  obtain ⟨rfl, hy, -⟩ := hp
  show La p l e s m below meth c b D cA adX adM ls 537 [.int _, .int _] _ _
  exact l_eq F rfl rfl rfl (K _ _ _ hx hy hm (Nat.le_succ _))
set_option maxRecDepth 20000 in
theorem lc_stores (F : lw_F p l s m meth c b L xs D cA adX adM) (hl : lw_L b adX adM i ls) (hi : i + 5 ≤ L) (hL : L ≤ 2560) (hx : InvX S mm) (hy : InvM T mm) (hm : MOk mm) (hr : mR mm < 4096) (K : ∀ S' T' m', InvX S' m' → InvM T' m' → MOk m' → mR m' ≤ mR mm + 1 → La p l e s m below meth c b D cA adX adM ls 826 [] S' T') : La p l e s m below meth c b D cA adX adM ls 542 [] S T := by
  refine (l_ldx F hl rfl rfl (l_arg F hl hi hL 1 (by decide) rfl rfl rfl rfl rfl rfl rfl (l_arg F hl hi hL 2 (by decide) rfl rfl rfl rfl rfl rfl rfl (l_arg F hl hi hL 3 (by decide) rfl rfl rfl rfl rfl rfl rfl (l_cx (i9 := 811) F hl rfl rfl (x_stores hx hm) rfl rfl rfl rfl (by decide +kernel) rfl rfl rfl rfl (fun v S' hp => ?_))))))
  obtain ⟨rfl, hx⟩ := hp
  show La p l e s m below meth c b D cA adX adM ls 561 [.int _] _ _
  refine (l_ldm F hl rfl rfl (l_arg F hl hi hL 1 (by decide) rfl rfl rfl rfl rfl rfl rfl (l_arg F hl hi hL 2 (by decide) rfl rfl rfl rfl rfl rfl rfl (l_arg F hl hi hL 3 (by decide) rfl rfl rfl rfl rfl rfl rfl (l_cm (i9 := 1285) F hl rfl rfl (y_stores hy hm) rfl rfl rfl rfl (by decide +kernel) rfl rfl rfl rfl (fun v S' hp => ?_))))))
  obtain ⟨rfl, hy⟩ := hp
  show La p l e s m below meth c b D cA adX adM ls 580 [.int _, .int _] _ _
  exact l_eq F rfl rfl rfl (K _ _ _ hx hy hm (Nat.le_succ _))
set_option maxRecDepth 20000 in
theorem lc_hide (F : lw_F p l s m meth c b L xs D cA adX adM) (hl : lw_L b adX adM i ls) (hi : i + 5 ≤ L) (hL : L ≤ 2560) (hx : InvX S mm) (hy : InvM T mm) (hm : MOk mm) (hr : mR mm < 4096) (K : ∀ S' T' m', InvX S' m' → InvM T' m' → MOk m' → mR m' ≤ mR mm + 1 → La p l e s m below meth c b D cA adX adM ls 826 [] S' T') : La p l e s m below meth c b D cA adX adM ls 585 [] S T := by
  refine (l_ldx F hl rfl rfl (l_arg F hl hi hL 1 (by decide) rfl rfl rfl rfl rfl rfl rfl (l_arg F hl hi hL 2 (by decide) rfl rfl rfl rfl rfl rfl rfl (l_arg F hl hi hL 3 (by decide) rfl rfl rfl rfl rfl rfl rfl (l_arg F hl hi hL 4 (by decide) rfl rfl rfl rfl rfl rfl rfl (l_cx (i9 := 815) F hl rfl rfl (x_hide hx hm) rfl rfl rfl rfl (by decide +kernel) rfl rfl rfl rfl (fun v S' hp => ?_)))))))
  obtain ⟨rfl, hx⟩ := hp
  show La p l e s m below meth c b D cA adX adM ls 609 [.int _] _ _
  refine (l_ldm F hl rfl rfl (l_arg F hl hi hL 1 (by decide) rfl rfl rfl rfl rfl rfl rfl (l_arg F hl hi hL 2 (by decide) rfl rfl rfl rfl rfl rfl rfl (l_arg F hl hi hL 3 (by decide) rfl rfl rfl rfl rfl rfl rfl (l_arg F hl hi hL 4 (by decide) rfl rfl rfl rfl rfl rfl rfl (l_cm (i9 := 1289) F hl rfl rfl (y_hide hy hm) rfl rfl rfl rfl (by decide +kernel) rfl rfl rfl rfl (fun v S' hp => ?_)))))))
  obtain ⟨rfl, hy⟩ := hp
  show La p l e s m below meth c b D cA adX adM ls 633 [.int _, .int _] _ _
  exact l_eq F rfl rfl rfl (K _ _ _ hx hy (ok_hide hm) (by rw [r_hide]; exact Nat.le_succ _))
set_option maxRecDepth 20000 in
theorem lc_see (F : lw_F p l s m meth c b L xs D cA adX adM) (hl : lw_L b adX adM i ls) (hi : i + 5 ≤ L) (hL : L ≤ 2560) (hx : InvX S mm) (hy : InvM T mm) (hm : MOk mm) (hr : mR mm < 4096) (K : ∀ S' T' m', InvX S' m' → InvM T' m' → MOk m' → mR m' ≤ mR mm + 1 → La p l e s m below meth c b D cA adX adM ls 826 [] S' T') : La p l e s m below meth c b D cA adX adM ls 638 [] S T := by
  by_cases h4 : xs (i + 4) = 0
  · have hw : (0 : Int32) = 0 ∨ (0 : Int32) = 1 := Or.inl rfl
    refine (l_ldx F hl rfl rfl (l_arg F hl hi hL 1 (by decide) rfl rfl rfl rfl rfl rfl rfl (l_arg F hl hi hL 2 (by decide) rfl rfl rfl rfl rfl rfl rfl (l_arg F hl hi hL 3 (by decide) rfl rfl rfl rfl rfl rfl rfl (l_arg F hl hi hL 4 (by decide) rfl rfl rfl rfl rfl rfl rfl (l_if1 (t := 666) F rfl rfl rfl h4 (l_c (x := 0) F rfl rfl rfl (l_cx (i9 := 827) F hl rfl rfl (x_see hx hm hw) rfl rfl rfl rfl (by decide +kernel) rfl rfl rfl rfl (fun v S' hp => ?_)))))))))
    obtain ⟨rfl, hx⟩ := hp
    show La p l e s m below meth c b D cA adX adM ls 670 [.int _] _ _
    refine (l_ldm F hl rfl rfl (l_arg F hl hi hL 1 (by decide) rfl rfl rfl rfl rfl rfl rfl (l_arg F hl hi hL 2 (by decide) rfl rfl rfl rfl rfl rfl rfl (l_arg F hl hi hL 3 (by decide) rfl rfl rfl rfl rfl rfl rfl (l_arg F hl hi hL 4 (by decide) rfl rfl rfl rfl rfl rfl rfl (l_if1 (t := 698) F rfl rfl rfl h4 (l_c (x := 0) F rfl rfl rfl (l_cm (i9 := 1306) F hl rfl rfl (y_see hy hm hw) rfl rfl rfl rfl (by decide +kernel) rfl rfl rfl rfl (fun v S' hp => ?_)))))))))
    obtain ⟨rfl, hy⟩ := hp
    show La p l e s m below meth c b D cA adX adM ls 702 [.int _, .int _] _ _
    exact l_eq F rfl rfl rfl (K _ _ _ hx hy (ok_see hm hw) (by rw [r_see]; exact Nat.le_succ _))
  · have hw : (1 : Int32) = 0 ∨ (1 : Int32) = 1 := Or.inr rfl
    refine (l_ldx F hl rfl rfl (l_arg F hl hi hL 1 (by decide) rfl rfl rfl rfl rfl rfl rfl (l_arg F hl hi hL 2 (by decide) rfl rfl rfl rfl rfl rfl rfl (l_arg F hl hi hL 3 (by decide) rfl rfl rfl rfl rfl rfl rfl (l_arg F hl hi hL 4 (by decide) rfl rfl rfl rfl rfl rfl rfl (l_if0 (t := 666) F rfl rfl rfl h4 (l_c (x := 1) F rfl rfl rfl (l_go (t := 667) F rfl rfl rfl (l_cx (i9 := 827) F hl rfl rfl (x_see hx hm hw) rfl rfl rfl rfl (by decide +kernel) rfl rfl rfl rfl (fun v S' hp => ?_))))))))))
    obtain ⟨rfl, hx⟩ := hp
    show La p l e s m below meth c b D cA adX adM ls 670 [.int _] _ _
    refine (l_ldm F hl rfl rfl (l_arg F hl hi hL 1 (by decide) rfl rfl rfl rfl rfl rfl rfl (l_arg F hl hi hL 2 (by decide) rfl rfl rfl rfl rfl rfl rfl (l_arg F hl hi hL 3 (by decide) rfl rfl rfl rfl rfl rfl rfl (l_arg F hl hi hL 4 (by decide) rfl rfl rfl rfl rfl rfl rfl (l_if0 (t := 698) F rfl rfl rfl h4 (l_c (x := 1) F rfl rfl rfl (l_go (t := 699) F rfl rfl rfl (l_cm (i9 := 1306) F hl rfl rfl (y_see hy hm hw) rfl rfl rfl rfl (by decide +kernel) rfl rfl rfl rfl (fun v S' hp => ?_))))))))))
    obtain ⟨rfl, hy⟩ := hp
    show La p l e s m below meth c b D cA adX adM ls 702 [.int _, .int _] _ _
    exact l_eq F rfl rfl rfl (K _ _ _ hx hy (ok_see hm hw) (by rw [r_see]; exact Nat.le_succ _))
set_option maxRecDepth 20000 in
theorem lc_forget (F : lw_F p l s m meth c b L xs D cA adX adM) (hl : lw_L b adX adM i ls) (hi : i + 5 ≤ L) (hL : L ≤ 2560) (hx : InvX S mm) (hy : InvM T mm) (hm : MOk mm) (hr : mR mm < 4096) (K : ∀ S' T' m', InvX S' m' → InvM T' m' → MOk m' → mR m' ≤ mR mm + 1 → La p l e s m below meth c b D cA adX adM ls 826 [] S' T') : La p l e s m below meth c b D cA adX adM ls 707 [] S T := by
  refine (l_ldx F hl rfl rfl (l_cx (i9 := 836) F hl rfl rfl (x_forget hx) rfl rfl rfl rfl (by decide +kernel) rfl rfl rfl rfl (fun v S' hp => ?_)))
  obtain ⟨rfl, hx⟩ := hp
  show La p l e s m below meth c b D cA adX adM ls 711 [.int _] _ _
  refine (l_ldm F hl rfl rfl (l_cm (i9 := 1310) F hl rfl rfl (y_forget hy) rfl rfl rfl rfl (by decide +kernel) rfl rfl rfl rfl (fun v S' hp => ?_)))
  obtain ⟨rfl, hy⟩ := hp
  show La p l e s m below meth c b D cA adX adM ls 715 [.int _, .int _] _ _
  exact l_eq F rfl rfl rfl (K _ _ _ hx hy (ok_forget hm) (Nat.le_succ _))
set_option maxRecDepth 20000 in
theorem lc_drawn (F : lw_F p l s m meth c b L xs D cA adX adM) (hl : lw_L b adX adM i ls) (hi : i + 5 ≤ L) (hL : L ≤ 2560) (hx : InvX S mm) (hy : InvM T mm) (hm : MOk mm) (hr : mR mm < 4096) (K : ∀ S' T' m', InvX S' m' → InvM T' m' → MOk m' → mR m' ≤ mR mm + 1 → La p l e s m below meth c b D cA adX adM ls 826 [] S' T') : La p l e s m below meth c b D cA adX adM ls 720 [] S T := by
  refine (l_ldx F hl rfl rfl (l_arg F hl hi hL 1 (by decide) rfl rfl rfl rfl rfl rfl rfl (l_arg F hl hi hL 2 (by decide) rfl rfl rfl rfl rfl rfl rfl (l_arg F hl hi hL 3 (by decide) rfl rfl rfl rfl rfl rfl rfl (l_cx (i9 := 840) F hl rfl rfl (x_drawn hx hm) rfl rfl rfl rfl (by decide +kernel) rfl rfl rfl rfl (fun v S' hp => ?_))))))
  obtain ⟨rfl, hx⟩ := hp
  show La p l e s m below meth c b D cA adX adM ls 739 [.int _] _ _
  refine (l_ldm F hl rfl rfl (l_arg F hl hi hL 1 (by decide) rfl rfl rfl rfl rfl rfl rfl (l_arg F hl hi hL 2 (by decide) rfl rfl rfl rfl rfl rfl rfl (l_arg F hl hi hL 3 (by decide) rfl rfl rfl rfl rfl rfl rfl (l_cm (i9 := 1314) F hl rfl rfl (y_drawn hy hm) rfl rfl rfl rfl (by decide +kernel) rfl rfl rfl rfl (fun v S' hp => ?_))))))
  obtain ⟨rfl, hy⟩ := hp
  show La p l e s m below meth c b D cA adX adM ls 758 [.int _, .int _] _ _
  exact l_eq F rfl rfl rfl (K _ _ _ hx hy hm (Nat.le_succ _))
set_option maxRecDepth 20000 in
theorem lc_image (F : lw_F p l s m meth c b L xs D cA adX adM) (hl : lw_L b adX adM i ls) (hi : i + 5 ≤ L) (hL : L ≤ 2560) (hx : InvX S mm) (hy : InvM T mm) (hm : MOk mm) (hr : mR mm < 4096) (K : ∀ S' T' m', InvX S' m' → InvM T' m' → MOk m' → mR m' ≤ mR mm + 1 → La p l e s m below meth c b D cA adX adM ls 826 [] S' T') : La p l e s m below meth c b D cA adX adM ls 763 [] S T := by
  refine (l_ldx F hl rfl rfl (l_cx (i9 := 878) F hl rfl rfl (x_image hx hm) rfl rfl rfl rfl (by decide +kernel) rfl rfl rfl rfl (fun v S' hp => ?_)))
  obtain ⟨rfl, hx⟩ := hp
  show La p l e s m below meth c b D cA adX adM ls 767 [.int _] _ _
  refine (l_ldm F hl rfl rfl (l_cm (i9 := 1339) F hl rfl rfl (y_image hy hm) rfl rfl rfl rfl (by decide +kernel) rfl rfl rfl rfl (fun v S' hp => ?_)))
  obtain ⟨rfl, hy⟩ := hp
  show La p l e s m below meth c b D cA adX adM ls 771 [.int _, .int _] _ _
  exact l_eq F rfl rfl rfl (K _ _ _ hx hy (ok_image hm) (by rw [r_image]; exact Nat.le_succ _))
set_option maxRecDepth 20000 in
theorem lc_restore (F : lw_F p l s m meth c b L xs D cA adX adM) (hl : lw_L b adX adM i ls) (hi : i + 5 ≤ L) (hL : L ≤ 2560) (hx : InvX S mm) (hy : InvM T mm) (hm : MOk mm) (hr : mR mm < 4096) (K : ∀ S' T' m', InvX S' m' → InvM T' m' → MOk m' → mR m' ≤ mR mm + 1 → La p l e s m below meth c b D cA adX adM ls 826 [] S' T') : La p l e s m below meth c b D cA adX adM ls 776 [] S T := by
  refine (l_ldx F hl rfl rfl (l_cx (i9 := 891) F hl rfl rfl (x_restore hx hm) rfl rfl rfl rfl (by decide +kernel) rfl rfl rfl rfl (fun v S' hp => ?_)))
  obtain ⟨rfl, hx⟩ := hp
  show La p l e s m below meth c b D cA adX adM ls 780 [.int _] _ _
  refine (l_ldm F hl rfl rfl (l_cm (i9 := 1347) F hl rfl rfl (y_restore hy hm) rfl rfl rfl rfl (by decide +kernel) rfl rfl rfl rfl (fun v S' hp => ?_)))
  obtain ⟨rfl, hy⟩ := hp
  show La p l e s m below meth c b D cA adX adM ls 784 [.int _, .int _] _ _
  exact l_eq F rfl rfl rfl (K _ _ _ hx hy (ok_restore hm) (by rw [r_restore]; exact Nat.le_succ _))
set_option maxRecDepth 20000 in
theorem lc_count (F : lw_F p l s m meth c b L xs D cA adX adM) (hl : lw_L b adX adM i ls) (hi : i + 5 ≤ L) (hL : L ≤ 2560) (hx : InvX S mm) (hy : InvM T mm) (hm : MOk mm) (hr : mR mm < 4096) (K : ∀ S' T' m', InvX S' m' → InvM T' m' → MOk m' → mR m' ≤ mR mm + 1 → La p l e s m below meth c b D cA adX adM ls 826 [] S' T') : La p l e s m below meth c b D cA adX adM ls 789 [] S T := by
  refine (l_ldx F hl rfl rfl (l_arg F hl hi hL 1 (by decide) rfl rfl rfl rfl rfl rfl rfl (l_cx (i9 := 895) F hl rfl rfl (x_count hx hm) rfl rfl rfl rfl (by decide +kernel) rfl rfl rfl rfl (fun v S' hp => ?_))))
  obtain ⟨rfl, rfl⟩ := hp
  show La p l e s m below meth c b D cA adX adM ls 798 [.int _] _ _
  refine (l_ldm F hl rfl rfl (l_arg F hl hi hL 1 (by decide) rfl rfl rfl rfl rfl rfl rfl (l_cm (i9 := 1351) F hl rfl rfl (y_count hy hm) rfl rfl rfl rfl (by decide +kernel) rfl rfl rfl rfl (fun v S' hp => ?_))))
  obtain ⟨rfl, rfl⟩ := hp
  show La p l e s m below meth c b D cA adX adM ls 807 [.int _, .int _] _ _
  exact l_eq F rfl rfl rfl (K _ _ _ hx hy hm (Nat.le_succ _))
set_option maxRecDepth 20000 in
theorem lc_digest (F : lw_F p l s m meth c b L xs D cA adX adM) (hl : lw_L b adX adM i ls) (hi : i + 5 ≤ L) (hL : L ≤ 2560) (hx : InvX S mm) (hy : InvM T mm) (hm : MOk mm) (hr : mR mm < 4096) (K : ∀ S' T' m', InvX S' m' → InvM T' m' → MOk m' → mR m' ≤ mR mm + 1 → La p l e s m below meth c b D cA adX adM ls 826 [] S' T') : La p l e s m below meth c b D cA adX adM ls 812 [] S T := by
  refine (l_ldx F hl rfl rfl (l_cx (i9 := 915) F hl rfl rfl (x_digest hx hm) rfl rfl rfl rfl (by decide +kernel) rfl rfl rfl rfl (fun v S' hp => ?_)))
  obtain ⟨rfl, hx⟩ := hp
  show La p l e s m below meth c b D cA adX adM ls 816 [.long _] _ _
  refine (l_ldm F hl rfl rfl (l_cm (i9 := 1367) F hl rfl rfl (y_digest hy hm) rfl rfl rfl rfl (by decide +kernel) rfl rfl rfl rfl (fun v S' hp => ?_)))
  obtain ⟨rfl, hy⟩ := hp
  show La p l e s m below meth c b D cA adX adM ls 820 [.long _, .long _] _ _
  exact l_lcmp F rfl rfl (l_if1 (t := 826) F rfl rfl rfl rfl (K _ _ _ hx hy hm (Nat.le_succ _)))
end
