/-! the reference: its relation to the mathematical state -/
def enc (s : Nat) : Nat := if s = 4 then 10 else if s = 5 then 11 else s
def TyM (S : zS) (p : Nat) (t : List Nat) : Prop := ∃ st, S.1 9 p = nI st ∧ st + t.length ≤ 90 ∧ At (S.1 10) st (t.map enc)
def BkM (S : zS) (B : Bk) : Prop := S.1 0 10 = nI (bN B) ∧ (∀ k, k < bN B → S.1 6 k = nI (bP B k)) ∧ (∀ k, k < bN B → S.1 8 k = nI (bM B k)) ∧ (∀ k, k < bN B → S.1 7 k = abI B k) ∧ (∀ k, k < bN B → bT B (12 + k) ≠ [] → TyM S (4 * k) (bT B (12 + k))) ∧ ∀ k j, k < bN B → j < bM B k → TyM S (4 * k + j + 1) (bT B (3 * k + j))
def KdM (S : zS) (c : Nat) (B : Bk) (kd : Nat → Nat) : Prop := ∀ k j, k < bN B → j < bM B k → S.1 c (4 * k + j) = nI (kd (3 * k + j))
def SiM (f : Nat → Int32) (a : Nat) (q : Nat × Nat) : Prop := ∃ b j w cd, b < 4 ∧ j < 3 ∧ w < 3 ∧ cd < 2 ∧ q.1 = 3 * b + j ∧ f a = nI b ∧ f (a + 1) = nI j ∧ f (a + 2) = nI w ∧ f (a + 3) = nI cd ∧ q.2 = (mskI w (nI cd)).toNatClampNeg
def KpM (S : zS) (B : Bk) (c1 c2 c3 c4 : Nat) (n : Int32) (k : Kp) : Prop := KdM S c1 B k.1 ∧ (∀ s, s < 8 → S.1 c2 s = nI (k.2.1 s).length ∧ At (S.1 c3) (16 * s) (k.2.1 s)) ∧ n = nI k.2.2.length ∧ ∀ i, i < k.2.2.length → SiM (S.1 c4) (4 * i) (k.2.2.getD i (0, 0))
def InvM (S : zS) (m : Mt) : Prop := S.1 0 1 = nI (mP m).length ∧ At (S.1 1) 0 (mP m) ∧ BkM S (mB m) ∧ KpM S (mB m) 11 12 13 22 (S.1 0 34) (mN m) ∧ (∀ j, j < 8 → S.1 14 j = nI (wy (mB m) (mK m) j)) ∧ S.1 0 22 = nI (rnd (mB m) (mK m)) ∧
  (match mI m with
  | none => S.1 0 37 = -1 ∨ ∃ r, r < mR m ∧ S.1 0 37 = nI r
  | some k => S.1 0 37 = nI (mR m) ∧ KpM S (mB m) 23 24 25 26 (S.1 0 38) k) ∧ S.1 0 11 = nI (mR m) ∧ S.1 0 32 = nI (mH m)
/-- what a change of the reference's cells leaves alone -/
def Am (ks fs : List Nat) (S S' : zS) : Prop := (∀ k, k ≠ 0 → k ∉ ks → S'.1 k = S.1 k) ∧ (∀ j, j ∉ fs → S'.1 0 j = S.1 0 j) ∧ S'.2 = S.2
theorem Am.rf {ks fs : List Nat} {S : zS} : Am ks fs S S := ⟨fun _ _ _ => rfl, fun _ _ => rfl, rfl⟩
theorem Am.tr {ks fs : List Nat} {S T U : zS} (h1 : Am ks fs S T) (h2 : Am ks fs T U) : Am ks fs S U := ⟨fun k h hk => (h2.1 k h hk).trans (h1.1 k h hk), fun j hj => (h2.2.1 j hj).trans (h1.2.1 j hj), h2.2.2.trans h1.2.2⟩
theorem Am.mono {ks fs ks' fs' : List Nat} {S T : zS} (h : Am ks fs S T) (hk : ∀ k, k ∈ ks → k ∈ ks') (hf : ∀ k, k ∈ fs → k ∈ fs') : Am ks' fs' S T := ⟨fun k h0 h2 => h.1 k h0 (fun h3 => h2 (hk k h3)), fun j h2 => h.2.1 j (fun h3 => h2 (hf j h3)), h.2.2⟩
theorem Am.uf {ks fs : List Nat} {S T : zS} {q : Nat} {f : Nat → Int32} (h : Am ks fs S T) (h0 : q ≠ 0) (hq : q ∈ ks) : Am ks fs S (z_uf T q f) := ⟨fun k hk hks => (uf_ne (fun e => hks (by rw [e]; exact hq))).trans (h.1 k hk hks), fun j hj => by rw [uf_ne (Ne.symm h0)]; exact h.2.1 j hj, h.2.2⟩
theorem Am.ui {ks fs : List Nat} {S T : zS} {q i : Nat} {x : Int32} (h : Am ks fs S T) (h0 : q ≠ 0) (hq : q ∈ ks) : Am ks fs S (z_ui T q i x) := Am.uf h h0 hq
theorem Am.fd {ks fs : List Nat} {S T : zS} {j : Nat} {x : Int32} (h : Am ks fs S T) (hj : j ∈ fs) : Am ks fs S (z_ui T 0 j x) := ⟨fun k hk hks => (ui_ne hk).trans (h.1 k hk hks), fun i hi => by
  rw [ui_at, pk_un (fun e => hi (by rw [e]; exact hj))]
  exact h.2.1 i hi, h.2.2⟩
/-- the cells that count -/
def ScM (S S' : zS) : Prop := (∀ k, k ∈ [1, 6, 7, 8, 9, 10, 11, 12, 13, 14, 22, 23, 24, 25, 26] → S'.1 k = S.1 k) ∧ ∀ j, j ∈ [1, 10, 11, 22, 32, 34, 37, 38] → S'.1 0 j = S.1 0 j
section
variable {S S' : zS} {m : Mt} {B : Bk} {k : Kp}
theorem TyM.ag {p : Nat} {t : List Nat} (h : TyM S p t) (h9 : S'.1 9 = S.1 9) (h10 : S'.1 10 = S.1 10) : TyM S' p t := by
  unfold TyM at h ⊢
  rw [h9, h10]
  exact h
theorem BkM.ag (h : BkM S B) (h0 : S'.1 0 10 = S.1 0 10) (h6 : S'.1 6 = S.1 6) (h7 : S'.1 7 = S.1 7) (h8 : S'.1 8 = S.1 8) (h9 : S'.1 9 = S.1 9) (h10 : S'.1 10 = S.1 10) : BkM S' B := by
  unfold BkM TyM at h ⊢
  rw [h0, h6, h7, h8, h9, h10]
  exact h
theorem KpM.ag {c1 c2 c3 c4 : Nat} {n n' : Int32} (h : KpM S B c1 c2 c3 c4 n k) (h1 : S'.1 c1 = S.1 c1) (h2 : S'.1 c2 = S.1 c2) (h3 : S'.1 c3 = S.1 c3) (h4 : S'.1 c4 = S.1 c4) (hn : n' = n) : KpM S' B c1 c2 c3 c4 n' k := by
  unfold KpM KdM at h ⊢
  rw [h1, h2, h3, h4, hn]
  exact h
theorem InvM.sc (h : InvM S m) (hs : ScM S S') : InvM S' m := by
  obtain ⟨h1, h2, h3, h4, h5, h6, h7, h8, h9⟩ := h
  obtain ⟨a, b⟩ := hs
  refine ⟨by rw [b 1 (by decide)]; exact h1, by rw [a 1 (by decide)]; exact h2, h3.ag (b 10 (by decide)) (a 6 (by decide)) (a 7 (by decide)) (a 8 (by decide)) (a 9 (by decide)) (a 10 (by decide)), h4.ag (a 11 (by decide)) (a 12 (by decide)) (a 13 (by decide)) (a 22 (by decide)) (b 34 (by decide)), by rw [a 14 (by decide)]; exact h5, by rw [b 22 (by decide)]; exact h6, ?_, by rw [b 11 (by decide)]; exact h8, by rw [b 32 (by decide)]; exact h9⟩
  cases hI : mI m with
  | none =>
    rw [hI] at h7
    show S'.1 0 37 = -1 ∨ _
    rw [b 37 (by decide)]
    exact h7
  | some k =>
    rw [hI] at h7
    exact ⟨by rw [b 37 (by decide)]; exact h7.1, h7.2.ag (a 23 (by decide)) (a 24 (by decide)) (a 25 (by decide)) (a 26 (by decide)) (b 38 (by decide))⟩
/-- scratch cells and fields alone -/
theorem Am.sc {ks fs : List Nat} (h : Am ks fs S S') (hk : ∀ k ∈ ks, k ∈ [2, 3, 4, 5, 15, 16, 17, 18, 19, 20, 21] := by decide) (hf : ∀ k ∈ fs, k ∈ [2, 3, 4, 5, 24, 25, 27, 31, 36] := by decide) : ScM S S' := by
  refine ⟨fun k hk1 => h.1 k ?_ (fun z => ?_), fun j hj => h.2.1 j (fun z => ?_)⟩
  · intro e
    rw [e] at hk1
    exact absurd hk1 (by decide)
  · have := hk k z
    simp only [List.mem_cons, List.not_mem_nil, or_false] at hk1 this
    omega
  · have := hf j z
    simp only [List.mem_cons, List.not_mem_nil, or_false] at hj this
    omega
end
