/-! CORE: the system's cells as one picture (Hp: what each cell holds, by cell and place), and a judgement Ev that packs W over it -/
def RXc : String := "StampSheet$Clashes"
def RXs : String := "StampSheet$Search"
def RXt : String := "StampSheet$State"
def RXu : String := "StampSheet$Sure"
def RXx : String := "StampSheet"
def RXm : String := "StampSheetModel"
def FLc : List (String × String × Bool) := [("state", "LStampSheet$State;", true), ("there", "[I", true), ("notThere", "[I", true), ("offset", "[I", true), ("between", "[I", true)]
def FLs : List (String × String × Bool) := [("state", "LStampSheet$State;", true), ("clashes", "LStampSheet$Clashes;", true), ("stale", "Z", false), ("places", "I", false), ("count", "I", false), ("least", "I", false), ("surePlace", "[I", true), ("lowest", "I", false), ("pickedLaying", "I", false), ("takes", "[Z", true), ("group", "[I", true), ("follower", "[I", true), ("open", "[I", true), ("best", "[I", true), ("groupLeast", "[I", true), ("groupWays", "[I", true), ("waysLeft", "[I", true), ("picked", "[I", true), ("load", "[I", true)]
def FLt : List (String × String × Bool) := [("rows", "I", false), ("columns", "I", false), ("pieces", "I", false), ("copies", "I", false), ("bars", "I", false), ("ofPieces", "[I", true), ("ofCopies", "[I", true), ("barred", "[I", true)]
def FLu : List (String × String × Bool) := [("state", "LStampSheet$State;", true), ("search", "LStampSheet$Search;", true), ("line", "[I", true)]
def FLx : List (String × String × Bool) := [("state", "LStampSheet$State;", true), ("kept", "LStampSheet$State;", true), ("search", "LStampSheet$Search;", true), ("sure", "LStampSheet$Sure;", true), ("somethingIsKept", "Z", false)]
def FLm : List (String × String × Bool) := [("rows", "I", false), ("columns", "I", false), ("pieces", "I", false), ("pieceRows", "[I", true), ("pieceColumns", "[I", true), ("margins", "[I", true), ("first", "[I", true), ("isOut", "[Z", true), ("copies", "I", false), ("pieceOf", "[I", true), ("marks", "[I", true), ("rowLetter", "[I", true), ("columnLetter", "[I", true), ("wears", "[I", true), ("days", "[I", true), ("shades", "[I", true), ("bars", "I", false), ("barOne", "[I", true), ("barOther", "[I", true), ("isKept", "Z", false), ("keptNumbers", "[I", true), ("keptPieces", "[I", true), ("keptCopies", "[I", true), ("keptMarks", "[I", true), ("keptBars", "[I", true), ("parts", "I", false), ("part", "[I", true), ("may", "[Z", true), ("quarrels", "[I", true), ("choice", "[I", true), ("least", "I", false), ("best", "I", false), ("seen", "[I", true), ("asked", "[I", true), ("ordered", "I", false), ("order", "[I", true)]
def fT (C : String) (l : List (String × String × Bool)) : u_T := fun k => (C, (l.getD k ("", "I", false)).1, (l.getD k ("", "I", false)).2.1, (l.getD k ("", "I", false)).2.2)
def fTy (l : List (String × String × Bool)) : Nat → FieldType := fun k => (parseFieldDescriptor (l.getD k ("", "I", false)).2.1).getD .int
def cls : List vw_C := [(RXc, fT RXc FLc, 5), (RXs, fT RXs FLs, 19), (RXt, fT RXt FLt, 8), (RXu, fT RXu FLu, 3), (RXx, fT RXx FLx, 5), (RXm, fT RXm FLm, 36)]
theorem lay_c : ∀ w ∈ u_ws RXc (fT RXc FLc) 5, w ∈ lw_tbl := by decide +kernel
theorem lay_s : ∀ w ∈ u_ws RXs (fT RXs FLs) 19, w ∈ lw_tbl := by decide +kernel
theorem lay_t : ∀ w ∈ u_ws RXt (fT RXt FLt) 8, w ∈ lw_tbl := by decide +kernel
theorem lay_u : ∀ w ∈ u_ws RXu (fT RXu FLu) 3, w ∈ lw_tbl := by decide +kernel
theorem lay_x : ∀ w ∈ u_ws RXx (fT RXx FLx) 5, w ∈ lw_tbl := by decide +kernel
theorem lay_m : ∀ w ∈ u_ws RXm (fT RXm FLm) 36, w ∈ lw_tbl := by decide +kernel
theorem nm_c : ∀ a, a < 5 → ∀ b, b < 5 → a ≠ b → (fT RXc FLc a).2.1 ≠ (fT RXc FLc b).2.1 := by decide +kernel
theorem nm_s : ∀ a, a < 19 → ∀ b, b < 19 → a ≠ b → (fT RXs FLs a).2.1 ≠ (fT RXs FLs b).2.1 := by decide +kernel
theorem nm_t : ∀ a, a < 8 → ∀ b, b < 8 → a ≠ b → (fT RXt FLt a).2.1 ≠ (fT RXt FLt b).2.1 := by decide +kernel
theorem nm_u : ∀ a, a < 3 → ∀ b, b < 3 → a ≠ b → (fT RXu FLu a).2.1 ≠ (fT RXu FLu b).2.1 := by decide +kernel
theorem nm_x : ∀ a, a < 5 → ∀ b, b < 5 → a ≠ b → (fT RXx FLx a).2.1 ≠ (fT RXx FLx b).2.1 := by decide +kernel
theorem nm_m : ∀ a, a < 36 → ∀ b, b < 36 → a ≠ b → (fT RXm FLm a).2.1 ≠ (fT RXm FLm b).2.1 := by decide +kernel
theorem ty_c : ∀ k, k < 5 → parseFieldDescriptor (fT RXc FLc k).2.2.1 = some (fTy FLc k) := by decide +kernel
theorem ty_s : ∀ k, k < 19 → parseFieldDescriptor (fT RXs FLs k).2.2.1 = some (fTy FLs k) := by decide +kernel
theorem ty_t : ∀ k, k < 8 → parseFieldDescriptor (fT RXt FLt k).2.2.1 = some (fTy FLt k) := by decide +kernel
theorem ty_u : ∀ k, k < 3 → parseFieldDescriptor (fT RXu FLu k).2.2.1 = some (fTy FLu k) := by decide +kernel
theorem ty_x : ∀ k, k < 5 → parseFieldDescriptor (fT RXx FLx k).2.2.1 = some (fTy FLx k) := by decide +kernel
theorem ty_m : ∀ k, k < 36 → parseFieldDescriptor (fT RXm FLm k).2.2.1 = some (fTy FLm k) := by decide +kernel
/-- a class of ours: its fields lie as the tables say, have types, and names of their own -/
def cOk (q : vw_C) : Prop := (∀ w ∈ u_ws q.1 q.2.1 q.2.2, w ∈ lw_tbl) ∧ ∃ ty0 : Nat → FieldType, (∀ k, k < q.2.2 → parseFieldDescriptor (q.2.1 k).2.2.1 = some (ty0 k)) ∧ (∀ a, a < q.2.2 → ∀ b, b < q.2.2 → a ≠ b → (q.2.1 a).2.1 ≠ (q.2.1 b).2.1) ∧ ∀ k, (q.2.1 k).1 = q.1
theorem cls_ok : ∀ (ci : Nat) (q : vw_C), cls[ci]? = some q → cOk q := by
  intro ci q h
  match ci, h with
  | 0, h => cases h; exact ⟨lay_c, _, ty_c, nm_c, fun _ => rfl⟩
  | 1, h => cases h; exact ⟨lay_s, _, ty_s, nm_s, fun _ => rfl⟩
  | 2, h => cases h; exact ⟨lay_t, _, ty_t, nm_t, fun _ => rfl⟩
  | 3, h => cases h; exact ⟨lay_u, _, ty_u, nm_u, fun _ => rfl⟩
  | 4, h => cases h; exact ⟨lay_x, _, ty_x, nm_x, fun _ => rfl⟩
  | 5, h => cases h; exact ⟨lay_m, _, ty_m, nm_m, fun _ => rfl⟩
  | k + 6, h => simp [cls] at h
/-- the words that stay true from call to call -/
def tbl : List Cond := lw_tbl.filter goodWord
theorem tbl_good : GoodIn tbl tbl := fun w hw => ⟨hw, good_of_word (List.mem_filter.mp hw).2⟩
theorem tbl_in {w : Cond} (h : w ∈ lw_tbl) (hg : goodWord w = true) : w ∈ tbl := List.mem_filter.mpr ⟨h, hg⟩
theorem tbl_sub {w : Cond} (h : w ∈ tbl) : w ∈ lw_tbl := (List.mem_filter.mp h).1
theorem u_good (C : String) (T : u_T) (N : Nat) : ∀ w ∈ u_ws C T N, goodWord w = true := by
  intro w hw
  obtain ⟨k, -, rfl⟩ := List.mem_map.mp hw
  unfold u_lay
  split <;> rfl
/-- the calls of private static methods of the class around -/
def nestL : List Cond := [.methodLinkNest RXt 47 ⟨RXx, "isWithin", "(III)Z"⟩ RXx, .methodLinkNest RXt 59 ⟨RXx, "isIn", "(II)Z"⟩ RXx, .methodLinkNest RXc 50 ⟨RXx, "isIn", "(II)Z"⟩ RXx, .methodLinkNest RXs 178 ⟨RXx, "isIn", "(II)Z"⟩ RXx, .methodLinkNest RXx 11 ⟨RXt, "<init>", "()V"⟩ RXx]
def NN (U : State) : Prop := ∀ w ∈ nestL, va_Nw w U
theorem nest_in : ∀ w ∈ nestL, w ∈ lw_tbl := by decide +kernel
theorem nest_on : ∀ w ∈ nestL, w.onTables = true := by decide +kernel
theorem NN.same {u U : State} (h : u.vm = U.vm) (hz : NN u) : NN U := fun w hw => va_Nw.same (nest_on w hw) h (hz w hw)
theorem NN.warm {s U : State} (hW : s.WarmedH U.vm) (hz : NN s) : NN U := by
  intro w hw
  have h := hz w hw
  simp only [nestL, List.mem_cons, List.not_mem_nil, or_false] at hw
  rcases hw with rfl | rfl | rfl | rfl | rfl <;> exact va_Nw.warmM hW h
abbrev GG : Type := (Nat → Nat) × va_G × ClassId × ClassId
abbrev MI : Type := MethodName × ByteArray × Nat × Option FieldType
def cv (g : GG) (a : AV) : Value := match a with
  | .inl x => .int x
  | .inr k => .ref (g.1 k)
def fv (g : GG) (h : Hp) (k j : Nat) (f : Option Nat) : Value := match f with
  | none => .int (h k j)
  | some r => .ref (g.1 r)
def ce (g : GG) (h : Hp) (k : Nat) (sp : Sp) : Nat × va_E := (g.1 k, match sp with
  | .inl a => .inl (bif a.1 then g.2.2.2 else g.2.2.1, a.2, .inl (h k))
  | .inr o => .inr (o.1, o.2.mapIdx (fv g h k)))
def wd (g : GG) (h : Hp) : va_W := lay.mapIdx (ce g h)
def gA (g : GG) : Nat → Prop := fun q => ∃ k : Nat, k < 55 ∧ q = g.1 k
def tyG (g : GG) : List (ClassId × FieldType) := [(g.2.2.1, .int), (g.2.2.2, .boolean)]
/-- the world behind a state -/
def Bw (g : GG) (h : Hp) (t : State) : Prop := va_P g.2.1 cls (wd g h) t.heap ∧ va_K g.2.1 cls (tyG g) t ∧ va_D (gA g) (wd g h)
def rmd (d : Nat) : Room := { frames := d, cells := 0, slots := 0, locals := 40 * d }
def QQ (ret : Option FieldType) (post : Int32 → Hp → Prop) (g : GG) : Array Value → State → Outcome → State → Prop := match ret with
  | none => va_Qv (fun u : Hp => post 0 u) (Bw g) (gA g)
  | some _ => va_Qi post (Bw g) (gA g)
def wsM (M : MI) : List Cond := Cond.code M.1 M.2.1 M.2.2.1 M.2.2.2 :: tbl
/-- a method's contract at these arguments and this picture: it returns, and 'post' holds of its answer (0: none) and of the new picture -/
def Mt (M : MI) (d : Nat) (As : List AV) (h : Hp) (post : Int32 → Hp → Prop) : Prop :=
  ∀ (l : Launch) (g : GG), Met l M.1 (wsM M) (rmd d) (va_Pc (As.map (cv g)) (fun U => Bw g h U ∧ NN U)) (QQ M.2.2.2 post g) 0 0 (gA g)
def cvL (g : GG) (L : List (Nat × AV)) : List (Nat × Value) := L.map (fun q => (q.1, cv g q.2))
/-- what stands fixed while a method runs -/
def Cx (M : MI) (p : Program) (s : State) (m : MethodId) (args : Array Value) (meth : Method) (c : Code) : Prop :=
  p.tables.exec = Jvm.exec ∧ c.code = M.2.1 ∧ meth.sig.returnType = M.2.2.2 ∧ c.maxLocals = M.2.2.1 ∧ s.vm.findClass M.1.cls = some m.cls ∧ (∀ w ∈ tbl, w.before args s = true) ∧ meth.locks = false ∧ NN s
def Ev (M : MI) (d : Nat) (pc : Nat) (L : List (Nat × AV)) (S : List AV) (h : Hp) (post : Int32 → Hp → Prop) : Prop :=
  ∀ (p : Program) (l : Launch) (e : Env) (s : State) (m : MethodId) (args : Array Value) (below : List Frame) (meth : Method) (c : Code) (H : Heap) (locs : List Loc) (ls : Array Slot) (g : GG),
    Cx M p s m args meth c → va_P g.2.1 cls (wd g h) H → va_K g.2.1 cls (tyG g) s → va_D (gA g) (wd g h) → va_S (gA g) s.heap H locs → lv_has ls M.2.2.1 (cvL g L) →
    W p l e (rmd d) s m args below meth c H locs 0 0 (MQ below (QQ M.2.2.2 post g) args s 0 0 (gA g)) (F0 m pc ls (S.map (cv g)))
