/-! names, by a program of ours (wip/whole/gen2.py): classes, fields, method heads -/
def R_Book : String := "SignBook$Book"
def T_Book : u_T := fun k => match k with
  | 0 => ("SignBook$Book", "kinds", "[I", true)
  | 1 => ("SignBook$Book", "parameters", "[I", true)
  | 2 => ("SignBook$Book", "members", "[I", true)
  | 3 => ("SignBook$Book", "text", "[I", true)
  | 4 => ("SignBook$Book", "starts", "[I", true)
  | 5 => ("SignBook$Book", "ends", "[I", true)
  | 6 => ("SignBook$Book", "size", "I", false)
  | _ => ("SignBook$Book", "classes", "I", false)
def ty_Book : Nat → FieldType := fun k => match k with
  | 0 => .array .int
  | 1 => .array .int
  | 2 => .array .int
  | 3 => .array .int
  | 4 => .array .int
  | 5 => .array .int
  | 6 => .int
  | _ => .int
theorem nm_Book : ∀ a, a < 8 → ∀ b, b < 8 → a ≠ b → (T_Book a).2.1 ≠ (T_Book b).2.1 := by decide +kernel
theorem tok_Book : ∀ k, k < 8 → parseFieldDescriptor (T_Book k).2.2.1 = some (ty_Book k) := by decide +kernel
theorem win_Book : (u_ws R_Book T_Book 8).all (fun w => decide (w ∈ z_T)) = true := by decide +kernel
def R_Draws : String := "SignBook$Draws"
def T_Draws : u_T := fun k => match k with
  | 0 => ("SignBook$Draws", "book", "LSignBook$Book;", true)
  | 1 => ("SignBook$Draws", "fits", "LSignBook$Fitting;", true)
  | 2 => ("SignBook$Draws", "type", "LSignBook$Row;", true)
  | 3 => ("SignBook$Draws", "seed", "J", false)
  | 4 => ("SignBook$Draws", "fitting", "I", false)
  | _ => ("SignBook$Draws", "signs", "I", false)
def ty_Draws : Nat → FieldType := fun k => match k with
  | 0 => .object "SignBook$Book"
  | 1 => .object "SignBook$Fitting"
  | 2 => .object "SignBook$Row"
  | 3 => .long
  | 4 => .int
  | _ => .int
theorem nm_Draws : ∀ a, a < 6 → ∀ b, b < 6 → a ≠ b → (T_Draws a).2.1 ≠ (T_Draws b).2.1 := by decide +kernel
theorem tok_Draws : ∀ k, k < 6 → parseFieldDescriptor (T_Draws k).2.2.1 = some (ty_Draws k) := by decide +kernel
theorem win_Draws : (u_ws R_Draws T_Draws 6).all (fun w => decide (w ∈ z_T)) = true := by decide +kernel
def R_Fit : String := "SignBook$Fitting"
def T_Fit : u_T := fun k => match k with
  | 0 => ("SignBook$Fitting", "book", "LSignBook$Book;", true)
  | 1 => ("SignBook$Fitting", "ways", "LSignBook$Ways;", true)
  | _ => ("SignBook$Fitting", "row", "[I", true)
def ty_Fit : Nat → FieldType := fun k => match k with
  | 0 => .object "SignBook$Book"
  | 1 => .object "SignBook$Ways"
  | _ => .array .int
theorem nm_Fit : ∀ a, a < 3 → ∀ b, b < 3 → a ≠ b → (T_Fit a).2.1 ≠ (T_Fit b).2.1 := by decide +kernel
theorem tok_Fit : ∀ k, k < 3 → parseFieldDescriptor (T_Fit k).2.2.1 = some (ty_Fit k) := by decide +kernel
theorem win_Fit : (u_ws R_Fit T_Fit 3).all (fun w => decide (w ∈ z_T)) = true := by decide +kernel
def R_Hold : String := "SignBook$Holding"
def T_Hold : u_T := fun k => match k with
  | 0 => ("SignBook$Holding", "kinds", "[I", true)
  | 1 => ("SignBook$Holding", "sizes", "[I", true)
  | 2 => ("SignBook$Holding", "signs", "[I", true)
  | 3 => ("SignBook$Holding", "seenPlaces", "[I", true)
  | 4 => ("SignBook$Holding", "seenKinds", "[I", true)
  | _ => ("SignBook$Holding", "seenCount", "I", false)
def ty_Hold : Nat → FieldType := fun k => match k with
  | 0 => .array .int
  | 1 => .array .int
  | 2 => .array .int
  | 3 => .array .int
  | 4 => .array .int
  | _ => .int
theorem nm_Hold : ∀ a, a < 6 → ∀ b, b < 6 → a ≠ b → (T_Hold a).2.1 ≠ (T_Hold b).2.1 := by decide +kernel
theorem tok_Hold : ∀ k, k < 6 → parseFieldDescriptor (T_Hold k).2.2.1 = some (ty_Hold k) := by decide +kernel
theorem win_Hold : (u_ws R_Hold T_Hold 6).all (fun w => decide (w ∈ z_T)) = true := by decide +kernel
def R_Page : String := "SignBook$Page"
def T_Page : u_T := fun k => match k with
  | 0 => ("SignBook$Page", "letters", "[I", true)
  | _ => ("SignBook$Page", "size", "I", false)
def ty_Page : Nat → FieldType := fun k => match k with
  | 0 => .array .int
  | _ => .int
theorem nm_Page : ∀ a, a < 2 → ∀ b, b < 2 → a ≠ b → (T_Page a).2.1 ≠ (T_Page b).2.1 := by decide +kernel
theorem tok_Page : ∀ k, k < 2 → parseFieldDescriptor (T_Page k).2.2.1 = some (ty_Page k) := by decide +kernel
theorem win_Page : (u_ws R_Page T_Page 2).all (fun w => decide (w ∈ z_T)) = true := by decide +kernel
def R_Rdr : String := "SignBook$Reader"
def T_Rdr : u_T := fun k => match k with
  | 0 => ("SignBook$Reader", "draft", "LSignBook$Book;", true)
  | 1 => ("SignBook$Reader", "phase", "I", false)
  | 2 => ("SignBook$Reader", "number", "I", false)
  | 3 => ("SignBook$Reader", "place", "I", false)
  | _ => ("SignBook$Reader", "open", "I", false)
def ty_Rdr : Nat → FieldType := fun k => match k with
  | 0 => .object "SignBook$Book"
  | 1 => .int
  | 2 => .int
  | 3 => .int
  | _ => .int
theorem nm_Rdr : ∀ a, a < 5 → ∀ b, b < 5 → a ≠ b → (T_Rdr a).2.1 ≠ (T_Rdr b).2.1 := by decide +kernel
theorem tok_Rdr : ∀ k, k < 5 → parseFieldDescriptor (T_Rdr k).2.2.1 = some (ty_Rdr k) := by decide +kernel
theorem win_Rdr : (u_ws R_Rdr T_Rdr 5).all (fun w => decide (w ∈ z_T)) = true := by decide +kernel
def R_Row : String := "SignBook$Row"
def T_Row : u_T := fun k => match k with
  | 0 => ("SignBook$Row", "signs", "[I", true)
  | _ => ("SignBook$Row", "size", "I", false)
def ty_Row : Nat → FieldType := fun k => match k with
  | 0 => .array .int
  | _ => .int
theorem nm_Row : ∀ a, a < 2 → ∀ b, b < 2 → a ≠ b → (T_Row a).2.1 ≠ (T_Row b).2.1 := by decide +kernel
theorem tok_Row : ∀ k, k < 2 → parseFieldDescriptor (T_Row k).2.2.1 = some (ty_Row k) := by decide +kernel
theorem win_Row : (u_ws R_Row T_Row 2).all (fun w => decide (w ∈ z_T)) = true := by decide +kernel
def R_Ways : String := "SignBook$Ways"
def T_Ways : u_T := fun k => match k with
  | 0 => ("SignBook$Ways", "book", "LSignBook$Book;", true)
  | 1 => ("SignBook$Ways", "settled", "[I", true)
  | 2 => ("SignBook$Ways", "next", "[I", true)
  | 3 => ("SignBook$Ways", "coming", "[I", true)
  | _ => ("SignBook$Ways", "rounds", "I", false)
def ty_Ways : Nat → FieldType := fun k => match k with
  | 0 => .object "SignBook$Book"
  | 1 => .array .int
  | 2 => .array .int
  | 3 => .array .int
  | _ => .int
theorem nm_Ways : ∀ a, a < 5 → ∀ b, b < 5 → a ≠ b → (T_Ways a).2.1 ≠ (T_Ways b).2.1 := by decide +kernel
theorem tok_Ways : ∀ k, k < 5 → parseFieldDescriptor (T_Ways k).2.2.1 = some (ty_Ways k) := by decide +kernel
theorem win_Ways : (u_ws R_Ways T_Ways 5).all (fun w => decide (w ∈ z_T)) = true := by decide +kernel
def R_SB : String := "SignBook"
def T_SB : u_T := fun k => match k with
  | 0 => ("SignBook", "page", "LSignBook$Page;", true)
  | 1 => ("SignBook", "book", "LSignBook$Book;", true)
  | 2 => ("SignBook", "draft", "LSignBook$Book;", true)
  | 3 => ("SignBook", "reader", "LSignBook$Reader;", true)
  | 4 => ("SignBook", "now", "LSignBook$Holding;", true)
  | 5 => ("SignBook", "kept", "LSignBook$Holding;", true)
  | 6 => ("SignBook", "ways", "LSignBook$Ways;", true)
  | 7 => ("SignBook", "trial", "LSignBook$Ways;", true)
  | 8 => ("SignBook", "made", "LSignBook$Row;", true)
  | 9 => ("SignBook", "fitting", "LSignBook$Fitting;", true)
  | 10 => ("SignBook", "draws", "LSignBook$Draws;", true)
  | 11 => ("SignBook", "isKept", "Z", false)
  | 12 => ("SignBook", "booksRead", "I", false)
  | _ => ("SignBook", "hidesDone", "I", false)
def ty_SB : Nat → FieldType := fun k => match k with
  | 0 => .object "SignBook$Page"
  | 1 => .object "SignBook$Book"
  | 2 => .object "SignBook$Book"
  | 3 => .object "SignBook$Reader"
  | 4 => .object "SignBook$Holding"
  | 5 => .object "SignBook$Holding"
  | 6 => .object "SignBook$Ways"
  | 7 => .object "SignBook$Ways"
  | 8 => .object "SignBook$Row"
  | 9 => .object "SignBook$Fitting"
  | 10 => .object "SignBook$Draws"
  | 11 => .boolean
  | 12 => .int
  | _ => .int
theorem nm_SB : ∀ a, a < 14 → ∀ b, b < 14 → a ≠ b → (T_SB a).2.1 ≠ (T_SB b).2.1 := by decide +kernel
theorem tok_SB : ∀ k, k < 14 → parseFieldDescriptor (T_SB k).2.2.1 = some (ty_SB k) := by decide +kernel
theorem win_SB : (u_ws R_SB T_SB 14).all (fun w => decide (w ∈ z_T)) = true := by decide +kernel
def R_M : String := "SignBookModel"
def T_M : u_T := fun k => match k with
  | 0 => ("SignBookModel", "page", "[I", true)
  | 1 => ("SignBookModel", "pageMany", "I", false)
  | 2 => ("SignBookModel", "mode", "I", false)
  | 3 => ("SignBookModel", "readMany", "I", false)
  | 4 => ("SignBookModel", "body", "I", false)
  | 5 => ("SignBookModel", "needed", "I", false)
  | 6 => ("SignBookModel", "readParameters", "[I", true)
  | 7 => ("SignBookModel", "readAbove", "[I", true)
  | 8 => ("SignBookModel", "readMembers", "[I", true)
  | 9 => ("SignBookModel", "readStart", "[I", true)
  | 10 => ("SignBookModel", "classes", "I", false)
  | 11 => ("SignBookModel", "booksRead", "I", false)
  | 12 => ("SignBookModel", "parameters", "[I", true)
  | 13 => ("SignBookModel", "above", "[I", true)
  | 14 => ("SignBookModel", "members", "[I", true)
  | 15 => ("SignBookModel", "start", "[I", true)
  | 16 => ("SignBookModel", "signs", "[I", true)
  | 17 => ("SignBookModel", "kinds", "[I", true)
  | 18 => ("SignBookModel", "slotMany", "[I", true)
  | 19 => ("SignBookModel", "slots", "[I", true)
  | 20 => ("SignBookModel", "ways", "[I", true)
  | 21 => ("SignBookModel", "waysThen", "[I", true)
  | 22 => ("SignBookModel", "roundMany", "I", false)
  | 23 => ("SignBookModel", "goes", "[I", true)
  | 24 => ("SignBookModel", "first", "I", false)
  | 25 => ("SignBookModel", "second", "I", false)
  | 26 => ("SignBookModel", "pool", "[I", true)
  | 27 => ("SignBookModel", "poolMany", "I", false)
  | 28 => ("SignBookModel", "goalOne", "[I", true)
  | 29 => ("SignBookModel", "goalOther", "[I", true)
  | 30 => ("SignBookModel", "goalPool", "[I", true)
  | 31 => ("SignBookModel", "goals", "I", false)
  | 32 => ("SignBookModel", "hidesDone", "I", false)
  | 33 => ("SignBookModel", "kindsThen", "[I", true)
  | 34 => ("SignBookModel", "seenMany", "I", false)
  | 35 => ("SignBookModel", "sights", "[I", true)
  | 36 => ("SignBookModel", "seedNow", "I", false)
  | 37 => ("SignBookModel", "keptBook", "I", false)
  | 38 => ("SignBookModel", "keptSeen", "I", false)
  | 39 => ("SignBookModel", "keptKinds", "[I", true)
  | 40 => ("SignBookModel", "keptSlotMany", "[I", true)
  | 41 => ("SignBookModel", "keptSlots", "[I", true)
  | 42 => ("SignBookModel", "keptSights", "[I", true)
  | _ => ("SignBookModel", "hash", "J", false)
def ty_M : Nat → FieldType := fun k => match k with
  | 0 => .array .int
  | 1 => .int
  | 2 => .int
  | 3 => .int
  | 4 => .int
  | 5 => .int
  | 6 => .array .int
  | 7 => .array .int
  | 8 => .array .int
  | 9 => .array .int
  | 10 => .int
  | 11 => .int
  | 12 => .array .int
  | 13 => .array .int
  | 14 => .array .int
  | 15 => .array .int
  | 16 => .array .int
  | 17 => .array .int
  | 18 => .array .int
  | 19 => .array .int
  | 20 => .array .int
  | 21 => .array .int
  | 22 => .int
  | 23 => .array .int
  | 24 => .int
  | 25 => .int
  | 26 => .array .int
  | 27 => .int
  | 28 => .array .int
  | 29 => .array .int
  | 30 => .array .int
  | 31 => .int
  | 32 => .int
  | 33 => .array .int
  | 34 => .int
  | 35 => .array .int
  | 36 => .int
  | 37 => .int
  | 38 => .int
  | 39 => .array .int
  | 40 => .array .int
  | 41 => .array .int
  | 42 => .array .int
  | _ => .long
theorem nm_M : ∀ a, a < 44 → ∀ b, b < 44 → a ≠ b → (T_M a).2.1 ≠ (T_M b).2.1 := by decide +kernel
theorem tok_M : ∀ k, k < 44 → parseFieldDescriptor (T_M k).2.2.1 = some (ty_M k) := by decide +kernel
theorem win_M : (u_ws R_M T_M 44).all (fun w => decide (w ∈ z_T)) = true := by decide +kernel
abbrev zcl : List vw_C := [(R_Book, T_Book, 8), (R_Draws, T_Draws, 6), (R_Fit, T_Fit, 3), (R_Hold, T_Hold, 6), (R_Page, T_Page, 2), (R_Rdr, T_Rdr, 5), (R_Row, T_Row, 2), (R_Ways, T_Ways, 5), (R_SB, T_SB, 14), (R_M, T_M, 44)]
def z_ty : Nat → Nat → FieldType := fun ci => match ci with
  | 0 => ty_Book
  | 1 => ty_Draws
  | 2 => ty_Fit
  | 3 => ty_Hold
  | 4 => ty_Page
  | 5 => ty_Rdr
  | 6 => ty_Row
  | 7 => ty_Ways
  | 8 => ty_SB
  | _ => ty_M
theorem z_cnm : ∀ (ci : Nat) (q : vw_C), zcl[ci]? = some q → ∀ a, a < q.2.2 → ∀ b, b < q.2.2 → a ≠ b → (q.2.1 a).2.1 ≠ (q.2.1 b).2.1
  | 0, q, h => by cases h; exact nm_Book
  | 1, q, h => by cases h; exact nm_Draws
  | 2, q, h => by cases h; exact nm_Fit
  | 3, q, h => by cases h; exact nm_Hold
  | 4, q, h => by cases h; exact nm_Page
  | 5, q, h => by cases h; exact nm_Rdr
  | 6, q, h => by cases h; exact nm_Row
  | 7, q, h => by cases h; exact nm_Ways
  | 8, q, h => by cases h; exact nm_SB
  | 9, q, h => by cases h; exact nm_M
  | n + 10, q, h => by simp [zcl] at h
theorem z_cty : ∀ (ci : Nat) (q : vw_C), zcl[ci]? = some q → ∀ k, k < q.2.2 → parseFieldDescriptor (q.2.1 k).2.2.1 = some (z_ty ci k)
  | 0, q, h => by cases h; exact tok_Book
  | 1, q, h => by cases h; exact tok_Draws
  | 2, q, h => by cases h; exact tok_Fit
  | 3, q, h => by cases h; exact tok_Hold
  | 4, q, h => by cases h; exact tok_Page
  | 5, q, h => by cases h; exact tok_Rdr
  | 6, q, h => by cases h; exact tok_Row
  | 7, q, h => by cases h; exact tok_Ways
  | 8, q, h => by cases h; exact tok_SB
  | 9, q, h => by cases h; exact tok_M
  | n + 10, q, h => by simp [zcl] at h
theorem z_cin : ∀ (ci : Nat) (q : vw_C), zcl[ci]? = some q → ∀ u ∈ u_ws q.1 q.2.1 q.2.2, u ∈ z_T
  | 0, q, h => by cases h; exact fun u hu => of_decide_eq_true (List.all_eq_true.mp win_Book u hu)
  | 1, q, h => by cases h; exact fun u hu => of_decide_eq_true (List.all_eq_true.mp win_Draws u hu)
  | 2, q, h => by cases h; exact fun u hu => of_decide_eq_true (List.all_eq_true.mp win_Fit u hu)
  | 3, q, h => by cases h; exact fun u hu => of_decide_eq_true (List.all_eq_true.mp win_Hold u hu)
  | 4, q, h => by cases h; exact fun u hu => of_decide_eq_true (List.all_eq_true.mp win_Page u hu)
  | 5, q, h => by cases h; exact fun u hu => of_decide_eq_true (List.all_eq_true.mp win_Rdr u hu)
  | 6, q, h => by cases h; exact fun u hu => of_decide_eq_true (List.all_eq_true.mp win_Row u hu)
  | 7, q, h => by cases h; exact fun u hu => of_decide_eq_true (List.all_eq_true.mp win_Ways u hu)
  | 8, q, h => by cases h; exact fun u hu => of_decide_eq_true (List.all_eq_true.mp win_SB u hu)
  | 9, q, h => by cases h; exact fun u hu => of_decide_eq_true (List.all_eq_true.mp win_M u hu)
  | n + 10, q, h => by simp [zcl] at h
def h_Book_clear : zD := (⟨"SignBook$Book", "clear", "()V"⟩, prog_2_method_2_code, 1, none, 0, [360, 76, 358, 359])
def h_Book_copy : zD := (⟨"SignBook$Book", "copy", "(LSignBook$Book;)V"⟩, prog_2_method_3_code, 2, none, 1, [534, 76, 532, 533])
def h_Book_addClass : zD := (⟨"SignBook$Book", "addClass", "(I)Z"⟩, prog_2_method_4_code, 2, (some .boolean), 1, [379, 76, 377, 378])
def h_Book_addMember : zD := (⟨"SignBook$Book", "addMember", "(II)Z"⟩, prog_2_method_5_code, 4, (some .boolean), 2, [519, 76, 517, 518])
def h_Book_beginType : zD := (⟨"SignBook$Book", "beginType", "(I)V"⟩, prog_2_method_6_code, 2, none, 1, [391, 76, 389, 390])
def h_Book_addSign : zD := (⟨"SignBook$Book", "addSign", "(II)Z"⟩, prog_2_method_7_code, 3, (some .boolean), 2, [403, 76, 401, 402])
def h_Book_hasClass : zD := (⟨"SignBook$Book", "hasClass", "(I)Z"⟩, prog_2_method_8_code, 2, (some .boolean), 1, [420, 76, 418, 419])
def h_Book_hasParameter : zD := (⟨"SignBook$Book", "hasParameter", "(II)Z"⟩, prog_2_method_9_code, 3, (some .boolean), 2, [415, 76, 413, 414])
def h_Book_hasMember : zD := (⟨"SignBook$Book", "hasMember", "(II)Z"⟩, prog_2_method_10_code, 3, (some .boolean), 2, [630, 76, 628, 629])
def h_Book_parametersOf : zD := (⟨"SignBook$Book", "parametersOf", "(I)I"⟩, prog_2_method_11_code, 2, (some .int), 1, [399, 76, 397, 398])
def h_Book_membersOf : zD := (⟨"SignBook$Book", "membersOf", "(I)I"⟩, prog_2_method_12_code, 2, (some .int), 1, [515, 76, 513, 514])
def h_Book_startOf : zD := (⟨"SignBook$Book", "startOf", "(I)I"⟩, prog_2_method_13_code, 2, (some .int), 1, [563, 76, 561, 562])
def h_Book_endOf : zD := (⟨"SignBook$Book", "endOf", "(I)I"⟩, prog_2_method_14_code, 2, (some .int), 1, [567, 76, 565, 566])
def h_Book_signsIn : zD := (⟨"SignBook$Book", "signsIn", "(I)I"⟩, prog_2_method_15_code, 2, (some .int), 1, [607, 76, 605, 606])
def h_Book_signAt : zD := (⟨"SignBook$Book", "signAt", "(I)I"⟩, prog_2_method_16_code, 2, (some .int), 1, [571, 76, 569, 570])
def h_Book_classAbove : zD := (⟨"SignBook$Book", "classAbove", "(I)I"⟩, prog_2_method_17_code, 3, (some .int), 1, [603, 76, 601, 602])
def h_Book_howManyAbove : zD := (⟨"SignBook$Book", "howManyAbove", "(I)I"⟩, prog_2_method_18_code, 5, (some .int), 1, [621, 76, 619, 620])
def h_Book_allParameters : zD := (⟨"SignBook$Book", "allParameters", "()I"⟩, prog_2_method_19_code, 3, (some .int), 0, [902, 76, 900, 901])
def h_Book_allMembers : zD := (⟨"SignBook$Book", "allMembers", "()I"⟩, prog_2_method_20_code, 3, (some .int), 0, [906, 76, 904, 905])
def h_Book_howManyPlain : zD := (⟨"SignBook$Book", "howManyPlain", "()I"⟩, prog_2_method_21_code, 3, (some .int), 0, [847, 76, 845, 846])
def h_Book_plainClass : zD := (⟨"SignBook$Book", "plainClass", "(I)I"⟩, prog_2_method_22_code, 4, (some .int), 1, [874, 76, 872, 873])
def h_Book_isClosedType : zD := (⟨"SignBook$Book", "isClosedType", "(LSignBook$Page;)Z"⟩, prog_2_method_23_code, 5, (some .boolean), 1, [685, 76, 683, 684])
def h_Book_behind : zD := (⟨"SignBook$Book", "behind", "([II)I"⟩, prog_2_method_24_code, 6, (some .int), 2, [732, 76, 730, 731])
def h_Draws_run : zD := (⟨"SignBook$Draws", "run", "(II)V"⟩, prog_3_method_2_code, 4, none, 2, [851, 82, 849, 850])
def h_Draws_drawType : zD := (⟨"SignBook$Draws", "drawType", "()V"⟩, prog_3_method_3_code, 3, none, 0, [855, 82, 854, 24])
def h_Draws_drawArgument : zD := (⟨"SignBook$Draws", "drawArgument", "()V"⟩, prog_3_method_4_code, 3, none, 0, [869, 82, 868, 26])
def h_Draws_draw : zD := (⟨"SignBook$Draws", "draw", "(I)I"⟩, prog_3_method_5_code, 2, (some .int), 1, [859, 82, 858, 25])
def h_Fit_layOne : zD := (⟨"SignBook$Fitting", "layOne", "(LSignBook$Row;)V"⟩, prog_4_method_2_code, 2, none, 1, [767, 81, 765, 766])
def h_Fit_layOther : zD := (⟨"SignBook$Fitting", "layOther", "(LSignBook$Row;)V"⟩, prog_4_method_3_code, 2, none, 1, [776, 81, 774, 775])
def h_Fit_oneFits : zD := (⟨"SignBook$Fitting", "oneFits", "()Z"⟩, prog_4_method_4_code, 1, (some .boolean), 0, [780, 81, 778, 779])
def h_Fit_lay : zD := (⟨"SignBook$Fitting", "lay", "(LSignBook$Row;I)V"⟩, prog_4_method_5_code, 4, none, 2, [771, 81, 770, 16])
def h_Fit_fits : zD := (⟨"SignBook$Fitting", "fits", "(III)Z"⟩, prog_4_method_6_code, 11, (some .boolean), 3, [784, 81, 783, 17])
def h_Fit_argumentFits : zD := (⟨"SignBook$Fitting", "argumentFits", "(IIII)Z"⟩, prog_4_method_7_code, 7, (some .boolean), 4, [803, 81, 802, 20])
def h_Fit_isAlike : zD := (⟨"SignBook$Fitting", "isAlike", "(III)Z"⟩, prog_4_method_8_code, 6, (some .boolean), 3, [809, 81, 808, 21])
def h_Fit_putIn : zD := (⟨"SignBook$Fitting", "putIn", "(III)I"⟩, prog_4_method_9_code, 3, (some .int), 3, [798, 81, 797])
def h_Fit_argument : zD := (⟨"SignBook$Fitting", "argument", "(II)I"⟩, prog_4_method_10_code, 3, (some .int), 2, [792, 81, 791, 19])
def h_Fit_signAt : zD := (⟨"SignBook$Fitting", "signAt", "(I)I"⟩, prog_4_method_11_code, 2, (some .int), 1, [788, 81, 787, 18])
def h_Hold_begin : zD := (⟨"SignBook$Holding", "begin", "([I)V"⟩, prog_5_method_2_code, 3, none, 1, [541, 78, 539, 540])
def h_Hold_copy : zD := (⟨"SignBook$Holding", "copy", "(LSignBook$Holding;)V"⟩, prog_5_method_3_code, 2, none, 1, [885, 78, 883, 884])
def h_Hold_kindOf : zD := (⟨"SignBook$Holding", "kindOf", "(I)I"⟩, prog_5_method_4_code, 2, (some .int), 1, [636, 78, 634, 635])
def h_Hold_setKind : zD := (⟨"SignBook$Holding", "setKind", "(II)V"⟩, prog_5_method_5_code, 3, none, 2, [674, 78, 672, 673])
def h_Hold_sizeOf : zD := (⟨"SignBook$Holding", "sizeOf", "(I)I"⟩, prog_5_method_6_code, 2, (some .int), 1, [712, 78, 710, 711])
def h_Hold_signAt : zD := (⟨"SignBook$Holding", "signAt", "(II)I"⟩, prog_5_method_7_code, 3, (some .int), 2, [720, 78, 718, 719])
def h_Hold_classIn : zD := (⟨"SignBook$Holding", "classIn", "(I)I"⟩, prog_5_method_8_code, 2, (some .int), 1, [716, 78, 714, 715])
def h_Hold_putIntoSlot : zD := (⟨"SignBook$Holding", "putIntoSlot", "(ILSignBook$Row;)I"⟩, prog_5_method_9_code, 4, (some .int), 2, [695, 78, 693, 694])
def h_Hold_filledSlots : zD := (⟨"SignBook$Holding", "filledSlots", "()I"⟩, prog_5_method_10_code, 3, (some .int), 0, [890, 78, 888, 889])
def h_Hold_allSigns : zD := (⟨"SignBook$Holding", "allSigns", "()I"⟩, prog_5_method_11_code, 3, (some .int), 0, [914, 78, 912, 913])
def h_Hold_addSeen : zD := (⟨"SignBook$Holding", "addSeen", "(IIZ)Z"⟩, prog_5_method_12_code, 5, (some .boolean), 3, [834, 78, 832, 833])
def h_Hold_sortsOf : zD := (⟨"SignBook$Holding", "sortsOf", "(I)I"⟩, prog_5_method_13_code, 4, (some .int), 1, [647, 78, 645, 646])
def h_Page_add : zD := (⟨"SignBook$Page", "add", "(I)Z"⟩, prog_6_method_2_code, 2, (some .boolean), 1, [340, 75, 338, 339])
def h_Page_clear : zD := (⟨"SignBook$Page", "clear", "()I"⟩, prog_6_method_3_code, 2, (some .int), 0, [348, 75, 346, 347])
def h_Page_letterAt : zD := (⟨"SignBook$Page", "letterAt", "(I)I"⟩, prog_6_method_4_code, 2, (some .int), 1, [367, 75, 365, 366])
def h_Rdr_firstFault : zD := (⟨"SignBook$Reader", "firstFault", "(LSignBook$Page;)I"⟩, prog_7_method_2_code, 3, (some .int), 1, [356, 77, 354, 355])
def h_Rdr_isWhole : zD := (⟨"SignBook$Reader", "isWhole", "()Z"⟩, prog_7_method_3_code, 1, (some .boolean), 0, [530, 77, 528, 529])
def h_Rdr_takes : zD := (⟨"SignBook$Reader", "takes", "(I)Z"⟩, prog_7_method_4_code, 2, (some .boolean), 1, [371, 77, 370, 0])
def h_Rdr_takesCount : zD := (⟨"SignBook$Reader", "takesCount", "(I)Z"⟩, prog_7_method_5_code, 3, (some .boolean), 1, [375, 77, 374, 1])
def h_Rdr_takesBody : zD := (⟨"SignBook$Reader", "takesBody", "(I)Z"⟩, prog_7_method_6_code, 2, (some .boolean), 1, [383, 77, 382, 2])
def h_Rdr_takesAbove : zD := (⟨"SignBook$Reader", "takesAbove", "(I)Z"⟩, prog_7_method_7_code, 3, (some .boolean), 1, [387, 77, 386, 3])
def h_Rdr_takesArgument : zD := (⟨"SignBook$Reader", "takesArgument", "(I)Z"⟩, prog_7_method_8_code, 3, (some .boolean), 1, [407, 77, 406, 5])
def h_Rdr_takesMember : zD := (⟨"SignBook$Reader", "takesMember", "(I)Z"⟩, prog_7_method_9_code, 3, (some .boolean), 1, [424, 77, 423, 7])
def h_Rdr_takesSign : zD := (⟨"SignBook$Reader", "takesSign", "(I)Z"⟩, prog_7_method_10_code, 2, (some .boolean), 1, [395, 77, 394, 4])
def h_Rdr_signOf : zD := (⟨"SignBook$Reader", "signOf", "(I)I"⟩, prog_7_method_11_code, 2, (some .int), 1, [411, 77, 410, 6])
def h_Row_add : zD := (⟨"SignBook$Row", "add", "(I)Z"⟩, prog_8_method_2_code, 2, (some .boolean), 1, [691, 80, 689, 690])
def h_Row_signAt : zD := (⟨"SignBook$Row", "signAt", "(I)I"⟩, prog_8_method_3_code, 2, (some .int), 1, [700, 80, 698, 699])
def h_Row_takeSlot : zD := (⟨"SignBook$Row", "takeSlot", "(LSignBook$Holding;I)V"⟩, prog_8_method_4_code, 3, none, 2, [762, 80, 760, 761])
def h_Row_takeType : zD := (⟨"SignBook$Row", "takeType", "(LSignBook$Book;ILSignBook$Holding;I)Z"⟩, prog_8_method_5_code, 11, (some .boolean), 4, [728, 80, 726, 727])
def h_Row_addSigns : zD := (⟨"SignBook$Row", "addSigns", "(LSignBook$Holding;II)Z"⟩, prog_8_method_6_code, 6, (some .boolean), 3, [739, 80, 738, 15])
def h_Ways_settle : zD := (⟨"SignBook$Ways", "settle", "([II)V"⟩, prog_9_method_2_code, 5, none, 2, [546, 79, 544, 545])
def h_Ways_wayOf : zD := (⟨"SignBook$Ways", "wayOf", "(II)I"⟩, prog_9_method_3_code, 4, (some .int), 2, [580, 79, 578, 579])
def h_Ways_howManyGo : zD := (⟨"SignBook$Ways", "howManyGo", "(I)I"⟩, prog_9_method_4_code, 5, (some .int), 1, [910, 79, 908, 909])
def h_Ways_toldBy : zD := (⟨"SignBook$Ways", "toldBy", "(II)I"⟩, prog_9_method_5_code, 8, (some .int), 2, [559, 79, 557, 558])
def h_Ways_awaitArguments : zD := (⟨"SignBook$Ways", "awaitArguments", "(III)I"⟩, prog_9_method_6_code, 6, (some .int), 3, [575, 79, 574, 10])
def h_Ways_goRound : zD := (⟨"SignBook$Ways", "goRound", "([II)Z"⟩, prog_9_method_7_code, 7, (some .boolean), 2, [551, 79, 550, 8])
def h_Ways_toldOfClass : zD := (⟨"SignBook$Ways", "toldOfClass", "(I[II)I"⟩, prog_9_method_8_code, 7, (some .int), 3, [555, 79, 554, 9])
def h_Ways_through : zD := (⟨"SignBook$Ways", "through", "(II)I"⟩, prog_9_method_9_code, 3, (some .int), 2, [583, 79, 582])
def h_SB_letter : zD := (⟨"SignBook", "letter", "(I)I"⟩, prog_1_method_2_code, 2, (some .int), 1, [336, 74, 334, 335])
def h_SB_blank : zD := (⟨"SignBook", "blank", "()I"⟩, prog_1_method_3_code, 1, (some .int), 0, [344, 74, 342, 343])
def h_SB_fault : zD := (⟨"SignBook", "fault", "()I"⟩, prog_1_method_4_code, 1, (some .int), 0, [352, 74, 350, 351])
def h_SB_book : zD := (⟨"SignBook", "book", "()I"⟩, prog_1_method_5_code, 1, (some .int), 0, [526, 74, 524, 525])
def h_SB_about : zD := (⟨"SignBook", "about", "(II)I"⟩, prog_1_method_6_code, 3, (some .int), 2, [597, 74, 595, 596])
def h_SB_member : zD := (⟨"SignBook", "member", "(III)I"⟩, prog_1_method_7_code, 5, (some .int), 3, [626, 74, 624, 625])
def h_SB_as : zD := (⟨"SignBook", "as", "(III)I"⟩, prog_1_method_8_code, 4, (some .int), 3, [663, 74, 661, 662])
def h_SB_change : zD := (⟨"SignBook", "change", "(III)I"⟩, prog_1_method_9_code, 6, (some .int), 3, [670, 74, 668, 669])
def h_SB_type : zD := (⟨"SignBook", "type", "(I)I"⟩, prog_1_method_10_code, 3, (some .int), 1, [678, 74, 676, 677])
def h_SB_read : zD := (⟨"SignBook", "read", "(III)I"⟩, prog_1_method_11_code, 5, (some .int), 3, [704, 74, 702, 703])
def h_SB_lift : zD := (⟨"SignBook", "lift", "(II)I"⟩, prog_1_method_12_code, 4, (some .int), 2, [745, 74, 743, 744])
def h_SB_rounds : zD := (⟨"SignBook", "rounds", "()I"⟩, prog_1_method_13_code, 1, (some .int), 0, [749, 74, 747, 748])
def h_SB_sign : zD := (⟨"SignBook", "sign", "(II)I"⟩, prog_1_method_14_code, 3, (some .int), 2, [753, 74, 751, 752])
def h_SB_suits : zD := (⟨"SignBook", "suits", "(II)I"⟩, prog_1_method_15_code, 3, (some .int), 2, [758, 74, 756, 757])
def h_SB_stores : zD := (⟨"SignBook", "stores", "(III)I"⟩, prog_1_method_16_code, 5, (some .int), 3, [814, 74, 812, 813])
def h_SB_hide : zD := (⟨"SignBook", "hide", "(IIII)I"⟩, prog_1_method_17_code, 6, (some .int), 4, [818, 74, 816, 817])
def h_SB_see : zD := (⟨"SignBook", "see", "(IIIZ)I"⟩, prog_1_method_18_code, 5, (some .int), 4, [830, 74, 828, 829])
def h_SB_forget : zD := (⟨"SignBook", "forget", "()I"⟩, prog_1_method_19_code, 2, (some .int), 0, [839, 74, 837, 838])
def h_SB_drawn : zD := (⟨"SignBook", "drawn", "(III)I"⟩, prog_1_method_20_code, 4, (some .int), 3, [843, 74, 841, 842])
def h_SB_image : zD := (⟨"SignBook", "image", "()I"⟩, prog_1_method_21_code, 1, (some .int), 0, [881, 74, 879, 880])
def h_SB_restore : zD := (⟨"SignBook", "restore", "()I"⟩, prog_1_method_22_code, 1, (some .int), 0, [894, 74, 892, 893])
def h_SB_count : zD := (⟨"SignBook", "count", "(I)I"⟩, prog_1_method_23_code, 2, (some .int), 1, [898, 74, 896, 897])
def h_SB_digest : zD := (⟨"SignBook", "digest", "()J"⟩, prog_1_method_24_code, 4, (some .long), 0, [918, 74, 916, 917])
def h_SB_digestOfClass : zD := (⟨"SignBook", "digestOfClass", "(JI)J"⟩, prog_1_method_25_code, 8, (some .long), 2, [923, 74, 922, 27])
def h_SB_digestOfSlot : zD := (⟨"SignBook", "digestOfSlot", "(JI)J"⟩, prog_1_method_26_code, 7, (some .long), 2, [930, 74, 929, 28])
def h_SB_wayOrNone : zD := (⟨"SignBook", "wayOrNone", "(II)I"⟩, prog_1_method_27_code, 3, (some .int), 2, [615, 74, 614, 11])
def h_SB_addedOrNone : zD := (⟨"SignBook", "addedOrNone", "(III)I"⟩, prog_1_method_28_code, 5, (some .int), 3, [640, 74, 639, 12])
def h_SB_isFilled : zD := (⟨"SignBook", "isFilled", "(I)Z"⟩, prog_1_method_29_code, 2, (some .boolean), 1, [708, 74, 707, 13])
def h_SB_make : zD := (⟨"SignBook", "make", "(II)Z"⟩, prog_1_method_30_code, 3, (some .boolean), 2, [724, 74, 723, 14])
def h_SB_fewestToHide : zD := (⟨"SignBook", "fewestToHide", "(III)I"⟩, prog_1_method_31_code, 8, (some .int), 3, [822, 74, 821, 22])
def h_SB_membersThatAdd : zD := (⟨"SignBook", "membersThatAdd", "()I"⟩, prog_1_method_32_code, 3, (some .int), 0, [826, 74, 825, 23])
def h_SB_placeOf : zD := (⟨"SignBook", "placeOf", "(II)I"⟩, prog_1_method_33_code, 2, (some .int), 2, [587, 74, 586])
def h_SB_isSlot : zD := (⟨"SignBook", "isSlot", "(I)Z"⟩, prog_1_method_34_code, 1, (some .boolean), 1, [681, 74, 680])
def h_SB_kindWays : zD := (⟨"SignBook", "kindWays", "(I)I"⟩, prog_1_method_35_code, 1, (some .int), 1, [590, 74, 589])
def h_SB_isOfKind : zD := (⟨"SignBook", "isOfKind", "(II)Z"⟩, prog_1_method_36_code, 2, (some .boolean), 2, [666, 74, 665])
def h_SB_bestToAsk : zD := (⟨"SignBook", "bestToAsk", "(I)I"⟩, prog_1_method_37_code, 6, (some .int), 1, [650, 74, 649])
def h_M_in : zD := (⟨"SignBookModel", "in", "(JJJ)Z"⟩, prog_11_method_2_code, 6, (some .boolean), 3, [1080, 83, 1079])
def h_M_copy : zD := (⟨"SignBookModel", "copy", "([I[I)V"⟩, prog_11_method_3_code, 3, none, 2, [1140, 83, 1139])
def h_M_letter : zD := (⟨"SignBookModel", "letter", "(I)I"⟩, prog_11_method_4_code, 2, (some .int), 1, [1076, 83, 1074, 1075])
def h_M_blank : zD := (⟨"SignBookModel", "blank", "()I"⟩, prog_11_method_5_code, 2, (some .int), 0, [1084, 83, 1082, 1083])
def h_M_kindBy : zD := (⟨"SignBookModel", "kindBy", "(I)I"⟩, prog_11_method_6_code, 1, (some .int), 1, [1129, 83, 1128])
def h_M_isCount : zD := (⟨"SignBookModel", "isCount", "(I)Z"⟩, prog_11_method_7_code, 2, (some .boolean), 1, [1100, 83, 1099, 31])
def h_M_isBegun : zD := (⟨"SignBookModel", "isBegun", "(II)Z"⟩, prog_11_method_8_code, 3, (some .boolean), 2, [1106, 83, 1105, 32])
def h_M_isAboveSign : zD := (⟨"SignBookModel", "isAboveSign", "(II)Z"⟩, prog_11_method_9_code, 3, (some .boolean), 2, [1110, 83, 1109, 33])
def h_M_isParameterSign : zD := (⟨"SignBookModel", "isParameterSign", "(I)Z"⟩, prog_11_method_10_code, 2, (some .boolean), 1, [1118, 83, 1117, 35])
def h_M_isClassSign : zD := (⟨"SignBookModel", "isClassSign", "(I)Z"⟩, prog_11_method_11_code, 2, (some .boolean), 1, [1122, 83, 1121, 36])
def h_M_isArgument : zD := (⟨"SignBookModel", "isArgument", "(I)Z"⟩, prog_11_method_12_code, 2, (some .boolean), 1, [1114, 83, 1113, 34])
def h_M_isMember : zD := (⟨"SignBookModel", "isMember", "(II)Z"⟩, prog_11_method_13_code, 3, (some .boolean), 2, [1126, 83, 1125, 37])
def h_M_isTypeSign : zD := (⟨"SignBookModel", "isTypeSign", "(I)Z"⟩, prog_11_method_14_code, 2, (some .boolean), 1, [1133, 83, 1132, 38])
def h_M_isGood : zD := (⟨"SignBookModel", "isGood", "(I)Z"⟩, prog_11_method_15_code, 3, (some .boolean), 1, [1096, 83, 1095, 30])
def h_M_faultOf : zD := (⟨"SignBookModel", "faultOf", "()I"⟩, prog_11_method_16_code, 2, (some .int), 0, [1092, 83, 1091, 29])
def h_M_fault : zD := (⟨"SignBookModel", "fault", "()I"⟩, prog_11_method_17_code, 1, (some .int), 0, [1088, 83, 1086, 1087])
def h_M_signOf : zD := (⟨"SignBookModel", "signOf", "(I)I"⟩, prog_11_method_18_code, 1, (some .int), 1, [1143, 83, 1142])
def h_M_book : zD := (⟨"SignBookModel", "book", "()I"⟩, prog_11_method_19_code, 3, (some .int), 0, [1137, 83, 1135, 1136])
def h_M_isClass : zD := (⟨"SignBookModel", "isClass", "(I)Z"⟩, prog_11_method_20_code, 2, (some .boolean), 1, [1213, 83, 1212, 50])
def h_M_isMemberOf : zD := (⟨"SignBookModel", "isMemberOf", "(II)Z"⟩, prog_11_method_21_code, 3, (some .boolean), 2, [1229, 83, 1228, 53])
def h_M_waysBy : zD := (⟨"SignBookModel", "waysBy", "(I)I"⟩, prog_11_method_22_code, 1, (some .int), 1, [1164, 83, 1163])
def h_M_turned : zD := (⟨"SignBookModel", "turned", "(I)I"⟩, prog_11_method_23_code, 1, (some .int), 1, [1161, 83, 1160])
def h_M_through : zD := (⟨"SignBookModel", "through", "(II)I"⟩, prog_11_method_24_code, 2, (some .int), 2, [1158, 83, 1157])
def h_M_layType : zD := (⟨"SignBookModel", "layType", "(II)V"⟩, prog_11_method_25_code, 8, none, 2, [1155, 83, 1154, 41])
def h_M_layRound : zD := (⟨"SignBookModel", "layRound", "()V"⟩, prog_11_method_26_code, 5, none, 0, [1151, 83, 1150, 40])
def h_M_layWays : zD := (⟨"SignBookModel", "layWays", "()V"⟩, prog_11_method_27_code, 3, none, 0, [1147, 83, 1146, 39])
def h_M_rounds : zD := (⟨"SignBookModel", "rounds", "()I"⟩, prog_11_method_28_code, 1, (some .int), 0, [1168, 83, 1166, 1167])
def h_M_lengthOf : zD := (⟨"SignBookModel", "lengthOf", "([II)I"⟩, prog_11_method_29_code, 5, (some .int), 2, [1201, 83, 1200, 48])
def h_M_add : zD := (⟨"SignBookModel", "add", "(I)V"⟩, prog_11_method_30_code, 2, none, 1, [1185, 83, 1184, 44])
def h_M_addSlot : zD := (⟨"SignBookModel", "addSlot", "(I)I"⟩, prog_11_method_31_code, 4, (some .int), 1, [1181, 83, 1180, 43])
def h_M_addPut : zD := (⟨"SignBookModel", "addPut", "(II)I"⟩, prog_11_method_32_code, 10, (some .int), 2, [1197, 83, 1196, 47])
def h_M_goal : zD := (⟨"SignBookModel", "goal", "(II)V"⟩, prog_11_method_33_code, 3, none, 2, [1193, 83, 1192, 46])
def h_M_addGoals : zD := (⟨"SignBookModel", "addGoals", "(II)V"⟩, prog_11_method_34_code, 7, none, 2, [1205, 83, 1204, 49])
def h_M_isSuiting : zD := (⟨"SignBookModel", "isSuiting", "(II)Z"⟩, prog_11_method_35_code, 5, (some .boolean), 2, [1189, 83, 1188, 45])
def h_M_isFull : zD := (⟨"SignBookModel", "isFull", "(I)Z"⟩, prog_11_method_36_code, 2, (some .boolean), 1, [1176, 83, 1175, 42])
def h_M_suits : zD := (⟨"SignBookModel", "suits", "(II)I"⟩, prog_11_method_37_code, 5, (some .int), 2, [1172, 83, 1170, 1171])
def h_M_chainOf : zD := (⟨"SignBookModel", "chainOf", "(I)I"⟩, prog_11_method_38_code, 4, (some .int), 1, [1221, 83, 1220, 52])
def h_M_tellClass : zD := (⟨"SignBookModel", "tellClass", "(II)I"⟩, prog_11_method_39_code, 3, (some .int), 2, [1217, 83, 1216, 51])
def h_M_about : zD := (⟨"SignBookModel", "about", "(II)I"⟩, prog_11_method_40_code, 3, (some .int), 2, [1209, 83, 1207, 1208])
def h_M_addsOf : zD := (⟨"SignBookModel", "addsOf", "(III)I"⟩, prog_11_method_41_code, 4, (some .int), 3, [1237, 83, 1236, 55])
def h_M_tellMember : zD := (⟨"SignBookModel", "tellMember", "(III)I"⟩, prog_11_method_42_code, 4, (some .int), 3, [1233, 83, 1232, 54])
def h_M_member : zD := (⟨"SignBookModel", "member", "(III)I"⟩, prog_11_method_43_code, 4, (some .int), 3, [1225, 83, 1223, 1224])
def h_M_as : zD := (⟨"SignBookModel", "as", "(III)I"⟩, prog_11_method_44_code, 5, (some .int), 3, [1255, 83, 1253, 1254])
def h_M_change : zD := (⟨"SignBookModel", "change", "(III)I"⟩, prog_11_method_45_code, 5, (some .int), 3, [1260, 83, 1258, 1259])
def h_M_isTyped : zD := (⟨"SignBookModel", "isTyped", "()Z"⟩, prog_11_method_46_code, 3, (some .boolean), 0, [1268, 83, 1267, 58])
def h_M_type : zD := (⟨"SignBookModel", "type", "(I)I"⟩, prog_11_method_47_code, 3, (some .int), 1, [1264, 83, 1262, 1263])
def h_M_lay : zD := (⟨"SignBookModel", "lay", "(II)I"⟩, prog_11_method_48_code, 5, (some .int), 2, [1276, 83, 1275, 59])
def h_M_read : zD := (⟨"SignBookModel", "read", "(III)I"⟩, prog_11_method_49_code, 6, (some .int), 3, [1272, 83, 1270, 1271])
def h_M_lift : zD := (⟨"SignBookModel", "lift", "(II)I"⟩, prog_11_method_50_code, 5, (some .int), 2, [1280, 83, 1278, 1279])
def h_M_sign : zD := (⟨"SignBookModel", "sign", "(II)I"⟩, prog_11_method_51_code, 3, (some .int), 2, [1284, 83, 1282, 1283])
def h_M_stores : zD := (⟨"SignBookModel", "stores", "(III)I"⟩, prog_11_method_52_code, 8, (some .int), 3, [1288, 83, 1286, 1287])
def h_M_ones : zD := (⟨"SignBookModel", "ones", "(I)I"⟩, prog_11_method_53_code, 3, (some .int), 1, [1251, 83, 1250])
def h_M_canHide : zD := (⟨"SignBookModel", "canHide", "(I)Z"⟩, prog_11_method_54_code, 4, (some .boolean), 1, [1301, 83, 1300, 61])
def h_M_isFreeBy : zD := (⟨"SignBookModel", "isFreeBy", "(III)Z"⟩, prog_11_method_55_code, 6, (some .boolean), 3, [1305, 83, 1304, 62])
def h_M_hideOf : zD := (⟨"SignBookModel", "hideOf", "(II)I"⟩, prog_11_method_56_code, 7, (some .int), 2, [1297, 83, 1296, 60])
def h_M_hide : zD := (⟨"SignBookModel", "hide", "(IIII)I"⟩, prog_11_method_57_code, 6, (some .int), 4, [1292, 83, 1290, 1291])
def h_M_see : zD := (⟨"SignBookModel", "see", "(IIIZ)I"⟩, prog_11_method_58_code, 5, (some .int), 4, [1309, 83, 1307, 1308])
def h_M_forget : zD := (⟨"SignBookModel", "forget", "()I"⟩, prog_11_method_59_code, 2, (some .int), 0, [1313, 83, 1311, 1312])
def h_M_sortsBy : zD := (⟨"SignBookModel", "sortsBy", "(I)I"⟩, prog_11_method_60_code, 1, (some .int), 1, [1244, 83, 1243])
def h_M_sortsOf : zD := (⟨"SignBookModel", "sortsOf", "(II)I"⟩, prog_11_method_61_code, 6, (some .int), 2, [1241, 83, 1240, 56])
def h_M_askOf : zD := (⟨"SignBookModel", "askOf", "(II)I"⟩, prog_11_method_62_code, 10, (some .int), 2, [1248, 83, 1247, 57])
def h_M_draw : zD := (⟨"SignBookModel", "draw", "(I)I"⟩, prog_11_method_63_code, 2, (some .int), 1, [1330, 83, 1329, 65])
def h_M_bareMany : zD := (⟨"SignBookModel", "bareMany", "()I"⟩, prog_11_method_64_code, 3, (some .int), 0, [1322, 83, 1321, 63])
def h_M_bareOf : zD := (⟨"SignBookModel", "bareOf", "(I)I"⟩, prog_11_method_65_code, 4, (some .int), 1, [1338, 83, 1337, 66])
def h_M_addDrawn : zD := (⟨"SignBookModel", "addDrawn", "()I"⟩, prog_11_method_66_code, 6, (some .int), 0, [1326, 83, 1325, 64])
def h_M_drawn : zD := (⟨"SignBookModel", "drawn", "(III)I"⟩, prog_11_method_67_code, 9, (some .int), 3, [1317, 83, 1315, 1316])
def h_M_slotsUsed : zD := (⟨"SignBookModel", "slotsUsed", "()I"⟩, prog_11_method_68_code, 3, (some .int), 0, [1346, 83, 1345, 67])
def h_M_image : zD := (⟨"SignBookModel", "image", "()I"⟩, prog_11_method_69_code, 1, (some .int), 0, [1342, 83, 1340, 1341])
def h_M_restore : zD := (⟨"SignBookModel", "restore", "()I"⟩, prog_11_method_70_code, 1, (some .int), 0, [1350, 83, 1348, 1349])
def h_M_sumOf : zD := (⟨"SignBookModel", "sumOf", "([II)I"⟩, prog_11_method_71_code, 5, (some .int), 2, [1362, 83, 1361, 69])
def h_M_going : zD := (⟨"SignBookModel", "going", "(I)I"⟩, prog_11_method_72_code, 4, (some .int), 1, [1366, 83, 1365, 70])
def h_M_countOf : zD := (⟨"SignBookModel", "countOf", "(I)I"⟩, prog_11_method_73_code, 2, (some .int), 1, [1358, 83, 1357, 68])
def h_M_count : zD := (⟨"SignBookModel", "count", "(I)I"⟩, prog_11_method_74_code, 2, (some .int), 1, [1354, 83, 1352, 1353])
def h_M_say : zD := (⟨"SignBookModel", "say", "(J)V"⟩, prog_11_method_75_code, 3, none, 1, [1379, 83, 1378, 72])
def h_M_sayClass : zD := (⟨"SignBookModel", "sayClass", "(I)V"⟩, prog_11_method_76_code, 4, none, 1, [1375, 83, 1374, 71])
def h_M_digest : zD := (⟨"SignBookModel", "digest", "()J"⟩, prog_11_method_77_code, 3, (some .long), 0, [1370, 83, 1368, 1369])
def h_JA_fill : zD := (⟨"java/util/Arrays", "fill", "([II)V"⟩, prog_19_method_103_code, 4, none, 2, [363, 84, 362])
def h_JI_bitCount : zD := (⟨"java/lang/Integer", "bitCount", "(I)I"⟩, prog_13_method_49_code, 1, (some .int), 1, [653, 92, 652])
def h_JS_indexOf : zD := (⟨"java/lang/String", "indexOf", "(I)I"⟩, prog_15_method_79_code, 2, (some .int), 1, [429, 85, 427, 428])
def h_JS_indexOf2 : zD := (⟨"java/lang/String", "indexOf", "(II)I"⟩, prog_15_method_80_code, 3, (some .int), 2, [433, 85, 431, 432])
def h_JS_isLatin1 : zD := (⟨"java/lang/String", "isLatin1", "()Z"⟩, prog_15_method_154_code, 1, (some .boolean), 0, [437, 85, 435, 436])
def h_JS_length : zD := (⟨"java/lang/String", "length", "()I"⟩, prog_15_method_54_code, 1, (some .int), 0, [443, 85, 441, 442])
def h_JS_coder : zD := (⟨"java/lang/String", "coder", "()B"⟩, prog_15_method_152_code, 1, (some .byte), 0, [447, 85, 445, 446])
def h_JL_indexOf : zD := (⟨"java/lang/StringLatin1", "indexOf", "([BIII)I"⟩, prog_16_method_22_code, 4, (some .int), 4, [450, 86, 449])
def h_JL_canEncode : zD := (⟨"java/lang/StringLatin1", "canEncode", "(I)Z"⟩, prog_16_method_4_code, 1, (some .boolean), 1, [453, 86, 452])
def h_JL_indexOfChar : zD := (⟨"java/lang/StringLatin1", "indexOfChar", "([BIII)I"⟩, prog_16_method_23_code, 6, (some .int), 4, [462, 86, 461])
def zN : List zD := [h_Book_clear, h_Book_copy, h_Book_addClass, h_Book_addMember, h_Book_beginType, h_Book_addSign, h_Book_hasClass, h_Book_hasParameter, h_Book_hasMember, h_Book_parametersOf, h_Book_membersOf, h_Book_startOf, h_Book_endOf, h_Book_signsIn, h_Book_signAt, h_Book_classAbove, h_Book_howManyAbove, h_Book_allParameters, h_Book_allMembers, h_Book_howManyPlain, h_Book_plainClass, h_Book_isClosedType, h_Book_behind, h_Draws_run, h_Draws_drawType, h_Draws_drawArgument, h_Draws_draw, h_Fit_layOne, h_Fit_layOther, h_Fit_oneFits, h_Fit_lay, h_Fit_fits, h_Fit_argumentFits, h_Fit_isAlike, h_Fit_putIn, h_Fit_argument, h_Fit_signAt, h_Hold_begin, h_Hold_copy, h_Hold_kindOf, h_Hold_setKind, h_Hold_sizeOf, h_Hold_signAt, h_Hold_classIn, h_Hold_putIntoSlot, h_Hold_filledSlots, h_Hold_allSigns, h_Hold_addSeen, h_Hold_sortsOf, h_Page_add, h_Page_clear, h_Page_letterAt, h_Rdr_firstFault, h_Rdr_isWhole, h_Rdr_takes, h_Rdr_takesCount, h_Rdr_takesBody, h_Rdr_takesAbove, h_Rdr_takesArgument, h_Rdr_takesMember, h_Rdr_takesSign, h_Rdr_signOf, h_Row_add, h_Row_signAt, h_Row_takeSlot, h_Row_takeType, h_Row_addSigns, h_Ways_settle, h_Ways_wayOf, h_Ways_howManyGo, h_Ways_toldBy, h_Ways_awaitArguments, h_Ways_goRound, h_Ways_toldOfClass, h_Ways_through, h_SB_letter, h_SB_blank, h_SB_fault, h_SB_book, h_SB_about, h_SB_member, h_SB_as, h_SB_change, h_SB_type, h_SB_read, h_SB_lift, h_SB_rounds, h_SB_sign, h_SB_suits, h_SB_stores, h_SB_hide, h_SB_see, h_SB_forget, h_SB_drawn, h_SB_image, h_SB_restore, h_SB_count, h_SB_digest, h_SB_digestOfClass, h_SB_digestOfSlot, h_SB_wayOrNone, h_SB_addedOrNone, h_SB_isFilled, h_SB_make, h_SB_fewestToHide, h_SB_membersThatAdd, h_SB_placeOf, h_SB_isSlot, h_SB_kindWays, h_SB_isOfKind, h_SB_bestToAsk, h_M_in, h_M_copy, h_M_letter, h_M_blank, h_M_kindBy, h_M_isCount, h_M_isBegun, h_M_isAboveSign, h_M_isParameterSign, h_M_isClassSign, h_M_isArgument, h_M_isMember, h_M_isTypeSign, h_M_isGood, h_M_faultOf, h_M_fault, h_M_signOf, h_M_book, h_M_isClass, h_M_isMemberOf, h_M_waysBy, h_M_turned, h_M_through, h_M_layType, h_M_layRound, h_M_layWays, h_M_rounds, h_M_lengthOf, h_M_add, h_M_addSlot, h_M_addPut, h_M_goal, h_M_addGoals, h_M_isSuiting, h_M_isFull, h_M_suits, h_M_chainOf, h_M_tellClass, h_M_about, h_M_addsOf, h_M_tellMember, h_M_member, h_M_as, h_M_change, h_M_isTyped, h_M_type, h_M_lay, h_M_read, h_M_lift, h_M_sign, h_M_stores, h_M_ones, h_M_canHide, h_M_isFreeBy, h_M_hideOf, h_M_hide, h_M_see, h_M_forget, h_M_sortsBy, h_M_sortsOf, h_M_askOf, h_M_draw, h_M_bareMany, h_M_bareOf, h_M_addDrawn, h_M_drawn, h_M_slotsUsed, h_M_image, h_M_restore, h_M_sumOf, h_M_going, h_M_countOf, h_M_count, h_M_say, h_M_sayClass, h_M_digest, h_JA_fill, h_JI_bitCount, h_JS_indexOf, h_JS_indexOf2, h_JS_isLatin1, h_JS_length, h_JS_coder, h_JL_indexOf, h_JL_canEncode, h_JL_indexOfChar]
theorem dk_Book_clear : z_dok h_Book_clear = true := by decide +kernel
theorem dk_Book_copy : z_dok h_Book_copy = true := by decide +kernel
theorem dk_Book_addClass : z_dok h_Book_addClass = true := by decide +kernel
theorem dk_Book_addMember : z_dok h_Book_addMember = true := by decide +kernel
theorem dk_Book_beginType : z_dok h_Book_beginType = true := by decide +kernel
theorem dk_Book_addSign : z_dok h_Book_addSign = true := by decide +kernel
theorem dk_Book_hasClass : z_dok h_Book_hasClass = true := by decide +kernel
theorem dk_Book_hasParameter : z_dok h_Book_hasParameter = true := by decide +kernel
theorem dk_Book_hasMember : z_dok h_Book_hasMember = true := by decide +kernel
theorem dk_Book_parametersOf : z_dok h_Book_parametersOf = true := by decide +kernel
theorem dk_Book_membersOf : z_dok h_Book_membersOf = true := by decide +kernel
theorem dk_Book_startOf : z_dok h_Book_startOf = true := by decide +kernel
theorem dk_Book_endOf : z_dok h_Book_endOf = true := by decide +kernel
theorem dk_Book_signsIn : z_dok h_Book_signsIn = true := by decide +kernel
theorem dk_Book_signAt : z_dok h_Book_signAt = true := by decide +kernel
theorem dk_Book_classAbove : z_dok h_Book_classAbove = true := by decide +kernel
theorem dk_Book_howManyAbove : z_dok h_Book_howManyAbove = true := by decide +kernel
theorem dk_Book_allParameters : z_dok h_Book_allParameters = true := by decide +kernel
theorem dk_Book_allMembers : z_dok h_Book_allMembers = true := by decide +kernel
theorem dk_Book_howManyPlain : z_dok h_Book_howManyPlain = true := by decide +kernel
theorem dk_Book_plainClass : z_dok h_Book_plainClass = true := by decide +kernel
theorem dk_Book_isClosedType : z_dok h_Book_isClosedType = true := by decide +kernel
theorem dk_Book_behind : z_dok h_Book_behind = true := by decide +kernel
theorem dk_Draws_run : z_dok h_Draws_run = true := by decide +kernel
theorem dk_Draws_drawType : z_dok h_Draws_drawType = true := by decide +kernel
theorem dk_Draws_drawArgument : z_dok h_Draws_drawArgument = true := by decide +kernel
theorem dk_Draws_draw : z_dok h_Draws_draw = true := by decide +kernel
theorem dk_Fit_layOne : z_dok h_Fit_layOne = true := by decide +kernel
theorem dk_Fit_layOther : z_dok h_Fit_layOther = true := by decide +kernel
theorem dk_Fit_oneFits : z_dok h_Fit_oneFits = true := by decide +kernel
theorem dk_Fit_lay : z_dok h_Fit_lay = true := by decide +kernel
theorem dk_Fit_fits : z_dok h_Fit_fits = true := by decide +kernel
theorem dk_Fit_argumentFits : z_dok h_Fit_argumentFits = true := by decide +kernel
theorem dk_Fit_isAlike : z_dok h_Fit_isAlike = true := by decide +kernel
theorem dk_Fit_putIn : z_dok h_Fit_putIn = true := by decide +kernel
theorem dk_Fit_argument : z_dok h_Fit_argument = true := by decide +kernel
theorem dk_Fit_signAt : z_dok h_Fit_signAt = true := by decide +kernel
theorem dk_Hold_begin : z_dok h_Hold_begin = true := by decide +kernel
theorem dk_Hold_copy : z_dok h_Hold_copy = true := by decide +kernel
theorem dk_Hold_kindOf : z_dok h_Hold_kindOf = true := by decide +kernel
theorem dk_Hold_setKind : z_dok h_Hold_setKind = true := by decide +kernel
theorem dk_Hold_sizeOf : z_dok h_Hold_sizeOf = true := by decide +kernel
theorem dk_Hold_signAt : z_dok h_Hold_signAt = true := by decide +kernel
theorem dk_Hold_classIn : z_dok h_Hold_classIn = true := by decide +kernel
theorem dk_Hold_putIntoSlot : z_dok h_Hold_putIntoSlot = true := by decide +kernel
theorem dk_Hold_filledSlots : z_dok h_Hold_filledSlots = true := by decide +kernel
theorem dk_Hold_allSigns : z_dok h_Hold_allSigns = true := by decide +kernel
theorem dk_Hold_addSeen : z_dok h_Hold_addSeen = true := by decide +kernel
theorem dk_Hold_sortsOf : z_dok h_Hold_sortsOf = true := by decide +kernel
theorem dk_Page_add : z_dok h_Page_add = true := by decide +kernel
theorem dk_Page_clear : z_dok h_Page_clear = true := by decide +kernel
theorem dk_Page_letterAt : z_dok h_Page_letterAt = true := by decide +kernel
theorem dk_Rdr_firstFault : z_dok h_Rdr_firstFault = true := by decide +kernel
theorem dk_Rdr_isWhole : z_dok h_Rdr_isWhole = true := by decide +kernel
theorem dk_Rdr_takes : z_dok h_Rdr_takes = true := by decide +kernel
theorem dk_Rdr_takesCount : z_dok h_Rdr_takesCount = true := by decide +kernel
theorem dk_Rdr_takesBody : z_dok h_Rdr_takesBody = true := by decide +kernel
theorem dk_Rdr_takesAbove : z_dok h_Rdr_takesAbove = true := by decide +kernel
theorem dk_Rdr_takesArgument : z_dok h_Rdr_takesArgument = true := by decide +kernel
theorem dk_Rdr_takesMember : z_dok h_Rdr_takesMember = true := by decide +kernel
theorem dk_Rdr_takesSign : z_dok h_Rdr_takesSign = true := by decide +kernel
theorem dk_Rdr_signOf : z_dok h_Rdr_signOf = true := by decide +kernel
theorem dk_Row_add : z_dok h_Row_add = true := by decide +kernel
theorem dk_Row_signAt : z_dok h_Row_signAt = true := by decide +kernel
theorem dk_Row_takeSlot : z_dok h_Row_takeSlot = true := by decide +kernel
theorem dk_Row_takeType : z_dok h_Row_takeType = true := by decide +kernel
theorem dk_Row_addSigns : z_dok h_Row_addSigns = true := by decide +kernel
theorem dk_Ways_settle : z_dok h_Ways_settle = true := by decide +kernel
theorem dk_Ways_wayOf : z_dok h_Ways_wayOf = true := by decide +kernel
theorem dk_Ways_howManyGo : z_dok h_Ways_howManyGo = true := by decide +kernel
theorem dk_Ways_toldBy : z_dok h_Ways_toldBy = true := by decide +kernel
theorem dk_Ways_awaitArguments : z_dok h_Ways_awaitArguments = true := by decide +kernel
theorem dk_Ways_goRound : z_dok h_Ways_goRound = true := by decide +kernel
theorem dk_Ways_toldOfClass : z_dok h_Ways_toldOfClass = true := by decide +kernel
theorem dk_Ways_through : z_dok h_Ways_through = true := by decide +kernel
theorem dk_SB_letter : z_dok h_SB_letter = true := by decide +kernel
theorem dk_SB_blank : z_dok h_SB_blank = true := by decide +kernel
theorem dk_SB_fault : z_dok h_SB_fault = true := by decide +kernel
theorem dk_SB_book : z_dok h_SB_book = true := by decide +kernel
theorem dk_SB_about : z_dok h_SB_about = true := by decide +kernel
theorem dk_SB_member : z_dok h_SB_member = true := by decide +kernel
theorem dk_SB_as : z_dok h_SB_as = true := by decide +kernel
theorem dk_SB_change : z_dok h_SB_change = true := by decide +kernel
theorem dk_SB_type : z_dok h_SB_type = true := by decide +kernel
theorem dk_SB_read : z_dok h_SB_read = true := by decide +kernel
theorem dk_SB_lift : z_dok h_SB_lift = true := by decide +kernel
theorem dk_SB_rounds : z_dok h_SB_rounds = true := by decide +kernel
theorem dk_SB_sign : z_dok h_SB_sign = true := by decide +kernel
theorem dk_SB_suits : z_dok h_SB_suits = true := by decide +kernel
theorem dk_SB_stores : z_dok h_SB_stores = true := by decide +kernel
theorem dk_SB_hide : z_dok h_SB_hide = true := by decide +kernel
theorem dk_SB_see : z_dok h_SB_see = true := by decide +kernel
theorem dk_SB_forget : z_dok h_SB_forget = true := by decide +kernel
theorem dk_SB_drawn : z_dok h_SB_drawn = true := by decide +kernel
theorem dk_SB_image : z_dok h_SB_image = true := by decide +kernel
theorem dk_SB_restore : z_dok h_SB_restore = true := by decide +kernel
theorem dk_SB_count : z_dok h_SB_count = true := by decide +kernel
theorem dk_SB_digest : z_dok h_SB_digest = true := by decide +kernel
theorem dk_SB_digestOfClass : z_dok h_SB_digestOfClass = true := by decide +kernel
theorem dk_SB_digestOfSlot : z_dok h_SB_digestOfSlot = true := by decide +kernel
theorem dk_SB_wayOrNone : z_dok h_SB_wayOrNone = true := by decide +kernel
theorem dk_SB_addedOrNone : z_dok h_SB_addedOrNone = true := by decide +kernel
theorem dk_SB_isFilled : z_dok h_SB_isFilled = true := by decide +kernel
theorem dk_SB_make : z_dok h_SB_make = true := by decide +kernel
theorem dk_SB_fewestToHide : z_dok h_SB_fewestToHide = true := by decide +kernel
theorem dk_SB_membersThatAdd : z_dok h_SB_membersThatAdd = true := by decide +kernel
theorem dk_SB_placeOf : z_dok h_SB_placeOf = true := by decide +kernel
theorem dk_SB_isSlot : z_dok h_SB_isSlot = true := by decide +kernel
theorem dk_SB_kindWays : z_dok h_SB_kindWays = true := by decide +kernel
theorem dk_SB_isOfKind : z_dok h_SB_isOfKind = true := by decide +kernel
theorem dk_SB_bestToAsk : z_dok h_SB_bestToAsk = true := by decide +kernel
theorem dk_M_in : z_dok h_M_in = true := by decide +kernel
theorem dk_M_copy : z_dok h_M_copy = true := by decide +kernel
theorem dk_M_letter : z_dok h_M_letter = true := by decide +kernel
theorem dk_M_blank : z_dok h_M_blank = true := by decide +kernel
theorem dk_M_kindBy : z_dok h_M_kindBy = true := by decide +kernel
theorem dk_M_isCount : z_dok h_M_isCount = true := by decide +kernel
theorem dk_M_isBegun : z_dok h_M_isBegun = true := by decide +kernel
theorem dk_M_isAboveSign : z_dok h_M_isAboveSign = true := by decide +kernel
theorem dk_M_isParameterSign : z_dok h_M_isParameterSign = true := by decide +kernel
theorem dk_M_isClassSign : z_dok h_M_isClassSign = true := by decide +kernel
theorem dk_M_isArgument : z_dok h_M_isArgument = true := by decide +kernel
theorem dk_M_isMember : z_dok h_M_isMember = true := by decide +kernel
theorem dk_M_isTypeSign : z_dok h_M_isTypeSign = true := by decide +kernel
theorem dk_M_isGood : z_dok h_M_isGood = true := by decide +kernel
theorem dk_M_faultOf : z_dok h_M_faultOf = true := by decide +kernel
theorem dk_M_fault : z_dok h_M_fault = true := by decide +kernel
theorem dk_M_signOf : z_dok h_M_signOf = true := by decide +kernel
theorem dk_M_book : z_dok h_M_book = true := by decide +kernel
theorem dk_M_isClass : z_dok h_M_isClass = true := by decide +kernel
theorem dk_M_isMemberOf : z_dok h_M_isMemberOf = true := by decide +kernel
theorem dk_M_waysBy : z_dok h_M_waysBy = true := by decide +kernel
theorem dk_M_turned : z_dok h_M_turned = true := by decide +kernel
theorem dk_M_through : z_dok h_M_through = true := by decide +kernel
theorem dk_M_layType : z_dok h_M_layType = true := by decide +kernel
theorem dk_M_layRound : z_dok h_M_layRound = true := by decide +kernel
theorem dk_M_layWays : z_dok h_M_layWays = true := by decide +kernel
theorem dk_M_rounds : z_dok h_M_rounds = true := by decide +kernel
theorem dk_M_lengthOf : z_dok h_M_lengthOf = true := by decide +kernel
theorem dk_M_add : z_dok h_M_add = true := by decide +kernel
theorem dk_M_addSlot : z_dok h_M_addSlot = true := by decide +kernel
theorem dk_M_addPut : z_dok h_M_addPut = true := by decide +kernel
theorem dk_M_goal : z_dok h_M_goal = true := by decide +kernel
theorem dk_M_addGoals : z_dok h_M_addGoals = true := by decide +kernel
theorem dk_M_isSuiting : z_dok h_M_isSuiting = true := by decide +kernel
theorem dk_M_isFull : z_dok h_M_isFull = true := by decide +kernel
theorem dk_M_suits : z_dok h_M_suits = true := by decide +kernel
theorem dk_M_chainOf : z_dok h_M_chainOf = true := by decide +kernel
theorem dk_M_tellClass : z_dok h_M_tellClass = true := by decide +kernel
theorem dk_M_about : z_dok h_M_about = true := by decide +kernel
theorem dk_M_addsOf : z_dok h_M_addsOf = true := by decide +kernel
theorem dk_M_tellMember : z_dok h_M_tellMember = true := by decide +kernel
theorem dk_M_member : z_dok h_M_member = true := by decide +kernel
theorem dk_M_as : z_dok h_M_as = true := by decide +kernel
theorem dk_M_change : z_dok h_M_change = true := by decide +kernel
theorem dk_M_isTyped : z_dok h_M_isTyped = true := by decide +kernel
theorem dk_M_type : z_dok h_M_type = true := by decide +kernel
theorem dk_M_lay : z_dok h_M_lay = true := by decide +kernel
theorem dk_M_read : z_dok h_M_read = true := by decide +kernel
theorem dk_M_lift : z_dok h_M_lift = true := by decide +kernel
theorem dk_M_sign : z_dok h_M_sign = true := by decide +kernel
theorem dk_M_stores : z_dok h_M_stores = true := by decide +kernel
theorem dk_M_ones : z_dok h_M_ones = true := by decide +kernel
theorem dk_M_canHide : z_dok h_M_canHide = true := by decide +kernel
theorem dk_M_isFreeBy : z_dok h_M_isFreeBy = true := by decide +kernel
theorem dk_M_hideOf : z_dok h_M_hideOf = true := by decide +kernel
theorem dk_M_hide : z_dok h_M_hide = true := by decide +kernel
theorem dk_M_see : z_dok h_M_see = true := by decide +kernel
theorem dk_M_forget : z_dok h_M_forget = true := by decide +kernel
theorem dk_M_sortsBy : z_dok h_M_sortsBy = true := by decide +kernel
theorem dk_M_sortsOf : z_dok h_M_sortsOf = true := by decide +kernel
theorem dk_M_askOf : z_dok h_M_askOf = true := by decide +kernel
theorem dk_M_draw : z_dok h_M_draw = true := by decide +kernel
theorem dk_M_bareMany : z_dok h_M_bareMany = true := by decide +kernel
theorem dk_M_bareOf : z_dok h_M_bareOf = true := by decide +kernel
theorem dk_M_addDrawn : z_dok h_M_addDrawn = true := by decide +kernel
theorem dk_M_drawn : z_dok h_M_drawn = true := by decide +kernel
theorem dk_M_slotsUsed : z_dok h_M_slotsUsed = true := by decide +kernel
theorem dk_M_image : z_dok h_M_image = true := by decide +kernel
theorem dk_M_restore : z_dok h_M_restore = true := by decide +kernel
theorem dk_M_sumOf : z_dok h_M_sumOf = true := by decide +kernel
theorem dk_M_going : z_dok h_M_going = true := by decide +kernel
theorem dk_M_countOf : z_dok h_M_countOf = true := by decide +kernel
theorem dk_M_count : z_dok h_M_count = true := by decide +kernel
theorem dk_M_say : z_dok h_M_say = true := by decide +kernel
theorem dk_M_sayClass : z_dok h_M_sayClass = true := by decide +kernel
theorem dk_M_digest : z_dok h_M_digest = true := by decide +kernel
theorem dk_JA_fill : z_dok h_JA_fill = true := by decide +kernel
theorem dk_JI_bitCount : z_dok h_JI_bitCount = true := by decide +kernel
theorem dk_JS_indexOf : z_dok h_JS_indexOf = true := by decide +kernel
theorem dk_JS_indexOf2 : z_dok h_JS_indexOf2 = true := by decide +kernel
theorem dk_JS_isLatin1 : z_dok h_JS_isLatin1 = true := by decide +kernel
theorem dk_JS_length : z_dok h_JS_length = true := by decide +kernel
theorem dk_JS_coder : z_dok h_JS_coder = true := by decide +kernel
theorem dk_JL_indexOf : z_dok h_JL_indexOf = true := by decide +kernel
theorem dk_JL_canEncode : z_dok h_JL_canEncode = true := by decide +kernel
theorem dk_JL_indexOfChar : z_dok h_JL_indexOfChar = true := by decide +kernel
