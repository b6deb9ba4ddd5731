/-! the two worlds: the program's and the reference's -/
def kwT : Nat → Int32 := fun j => match j with
  | 0 => 1
  | 1 => 2
  | 2 => 3
  | 3 => 0
  | _ => 1
def kcT : Nat → Int32 := fun j => match j with
  | 0 => 21
  | 1 => 6
  | _ => 20
def shX : List (Nat ⊕ Nat) := [.inl 8, .inl 4, .inr 90, .inl 0, .inr 12, .inr 4, .inr 4, .inr 90, .inr 16, .inr 16, .inl 0, .inr 12, .inr 4, .inr 4, .inr 90, .inr 16, .inr 16, .inl 5, .inl 3, .inr 12, .inr 8, .inr 120, .inr 6, .inr 6, .inl 3, .inr 12, .inr 8, .inr 120, .inr 6, .inr 6, .inl 7, .inr 8, .inr 8, .inr 92, .inl 7, .inr 8, .inr 8, .inr 92, .inl 6, .inr 15, .inl 2, .inr 34, .inl 1, .inl 6, .inr 15]
def fkX : List (List (Option (Option Nat))) := [
  [some (some 1), some (some 3), some (some 10), some (some 17), some (some 18), some (some 24), some (some 30), some (some 34), some (some 38), some (some 40), some (some 42)],
  [some (some 2)], [],
  [some (some 4), some (some 5), some (some 6), some (some 7), some (some 8), some (some 9)], [], [], [], [], [], [],
  [some (some 11), some (some 12), some (some 13), some (some 14), some (some 15), some (some 16)], [], [], [], [], [], [],
  [some (some 10)],
  [some (some 19), some (some 20), some (some 21), some (some 22), some (some 23)], [], [], [], [], [],
  [some (some 25), some (some 26), some (some 27), some (some 28), some (some 29)], [], [], [], [], [],
  [some (some 3), some (some 31), some (some 32), some (some 33)], [], [], [],
  [some (some 3), some (some 35), some (some 36), some (some 37)], [], [], [],
  [some (some 39)], [],
  [some (some 3), some (some 30), some (some 41)], [],
  [some (some 3), some (some 40), some (some 43), some none],
  [some (some 44)], []]
def exX : (Nat → Nat) → (Nat → Prop) → State → Heap → Prop := fun ad A U H => vk_S 1 [5] [[114, 97, 102, 104, 118]] (fun _ => ad 52) (fun _ => ad 53) A U H ∧ va_Z "java/lang/String" "COMPACT_STRINGS" "Z" (.int 1) A U H
def wX : zW := (45, fun k => shX.getD k (.inr 0), fun k j => (fkX.getD k []).getD j none, [("SignBook", "KIND_WAYS", 50, 5, kwT), ("SignBook", "KINDS_THAT_COULD", 51, 3, kcT)], exX)
theorem wX_ok : z_wok wX := fun ad A u U H H1 hvm hq h => ⟨(h.1.moved hvm).kept hq, (h.2.moved hvm).kept hq⟩
def shM : List (Nat ⊕ Nat) := [.inl 9, .inr 90, .inr 4, .inr 4, .inr 4, .inr 16, .inr 4, .inr 4, .inr 4, .inr 16, .inr 90, .inr 16, .inr 8, .inr 128, .inr 8, .inr 8, .inr 200, .inr 4000, .inr 400, .inr 400, .inr 400, .inr 16, .inr 24, .inr 16, .inr 8, .inr 128, .inr 24]
def fkM : List (List (Option (Option Nat))) := [[some (some 1), none, none, none, none, none, some (some 2), some (some 3), some (some 4), some (some 5), none, none, some (some 6), some (some 7), some (some 8), some (some 9), some (some 10), some (some 11), some (some 12), some (some 13), some (some 14), some (some 15), none, some (some 16), none, none, some (some 17), none, some (some 18), some (some 19), some (some 20), none, none, some (some 21), none, some (some 22), none, none, none, some (some 23), some (some 24), some (some 25), some (some 26), some none]]
def wM : zW := (27, fun k => shM.getD k (.inr 0), fun k j => (fkM.getD k []).getD j none, [], fun _ _ _ _ => True)
theorem wM_ok : z_wok wM := fun _ _ _ _ _ _ _ _ _ => trivial
theorem g_gof {X : zX} {d : Nat} {y : zM} {Post : Value → zS → Prop} {pc n a b t : Nat} {u : Value} {L : List (Option Value)} {st : List Value} {S : zS} {off : Int} (h : z_at y.2 pc = some (.goto off, n, u, a, b, t)) (hf : Nat.blt pc t = true) (k : Go X d y Post t L st S) : Go X d y Post pc L st S := g_go h k
theorem t_in {x : Int32} {n : Nat} (h0 : 0 ≤ x) (h1 : x < Int32.ofNat n) (hn : n < 2 ^ 31 := by decide) : vp_in x n := by
  rw [vp_in_iff]
  have h2 := Int32.lt_iff_toInt_lt.mp h1
  have h3 := Int32.le_iff_toInt_le.mp h0
  have h4 : (Int32.ofNat n).toInt = (n : Int) := nI_toInt hn
  have h5 : (0 : Int32).toInt = 0 := by decide
  omega
