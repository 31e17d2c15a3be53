/-! CONSTRUCTORS: rows over a world that grows -/
section Ctor
variable {p : Program} {l : Launch} {e : Env} {R : Room} {s : State} {m : MethodId} {args : Array Value} {below : List Frame} {meth : Method} {c : Code} {H : Heap} {locs : List Loc} {cells slots : Nat} {Q : State → Prop}
variable {M : MI} {pc : Nat} {ls : Array Slot} {rest : List Value} {g : GG} {A : Nat → Prop} {a : Nat} {ws : va_W} {H0 : Heap}
theorem arr_int : Cond.arrayClass .int ∈ tbl := tbl_in (by decide +kernel) rfl
theorem arr_bool : Cond.arrayClass .boolean ∈ tbl := tbl_in (by decide +kernel) rfl
theorem nw_I (C : Cx M p s m args meth c) (hK : va_K g.2.1 cls (tyG g) s) (hP : va_P g.2.1 cls ws H) (hD : va_D A ws) (hS : va_S A H0 H locs) (hA : ∀ q, H0.size ≤ q → A q) {n : Int32} {N : Nat} (hn : n = nI N) (hN : N < 10000) (hc : cells + 1 ≤ R.cells) (hs : slots + N ≤ R.slots) (hd : decode M.2.1 pc = .ok (.newarray .int, 2))
    (kk : ∀ (q : Nat) (H1 : Heap), va_P g.2.1 cls (ws ++ [(q, .inl (g.2.2.1, N, .inl (fun _ => 0)))]) H1 → va_D A (ws ++ [(q, .inl (g.2.2.1, N, .inl (fun _ => 0)))]) → va_S A H0 H1 locs → W p l e R s m args below meth c H1 locs (cells + 1) (slots + N) Q (F0 m (pc + 2) ls (.ref q :: rest))) : W p l e R s m args below meth c H locs cells slots Q (F0 m pc ls (.int n :: rest)) := by
  subst hn
  refine va_newa (atype := .int) (a0 := (N, .inl (fun _ => 0))) (ty := .int) C.1 C.2.1 (C.2.2.2.2.2.1 _ arr_int) rfl hK hP hD hS hA (fun cA => rfl) (nI_pos (by omega)) (nI_clamp (by omega)) (by show N * 4 ≤ _; omega) hc hs hd (fun q cA H1 hK1 hP1 hD1 hS1 => ?_)
  have e1 : cA = g.2.2.1 := Option.some.inj ((hK1.2 2 _ rfl).2.symm.trans (hK1.2 0 _ rfl).2)
  subst e1
  exact kk q H1 hP1 hD1 hS1
theorem nw_Z (C : Cx M p s m args meth c) (hK : va_K g.2.1 cls (tyG g) s) (hP : va_P g.2.1 cls ws H) (hD : va_D A ws) (hS : va_S A H0 H locs) (hA : ∀ q, H0.size ≤ q → A q) {n : Int32} {N : Nat} (hn : n = nI N) (hN : N < 10000) (hc : cells + 1 ≤ R.cells) (hs : slots + N ≤ R.slots) (hd : decode M.2.1 pc = .ok (.newarray .boolean, 2))
    (kk : ∀ (q : Nat) (H1 : Heap), va_P g.2.1 cls (ws ++ [(q, .inl (g.2.2.2, N, .inl (fun _ => 0)))]) H1 → va_D A (ws ++ [(q, .inl (g.2.2.2, N, .inl (fun _ => 0)))]) → va_S A H0 H1 locs → W p l e R s m args below meth c H1 locs (cells + 1) (slots + N) Q (F0 m (pc + 2) ls (.ref q :: rest))) : W p l e R s m args below meth c H locs cells slots Q (F0 m pc ls (.int n :: rest)) := by
  subst hn
  refine va_newa (atype := .boolean) (a0 := (N, .inl (fun _ => 0))) (ty := .boolean) C.1 C.2.1 (C.2.2.2.2.2.1 _ arr_bool) rfl hK hP hD hS hA (fun cA => rfl) (nI_pos (by omega)) (nI_clamp (by omega)) (by show N * 1 ≤ _; omega) hc hs hd (fun q cA H1 hK1 hP1 hD1 hS1 => ?_)
  have e1 : cA = g.2.2.2 := Option.some.inj ((hK1.2 2 _ rfl).2.symm.trans (hK1.2 1 _ rfl).2)
  subst e1
  exact kk q H1 hP1 hD1 hS1
/-- place j of class ci, that only the constructor writes -/
def FF (ci j : Nat) (ty : FieldType) : Prop := ∃ q : vw_C, cls[ci]? = some q ∧ (q.2.1 j).2.2.2 = true ∧ parseFieldDescriptor (q.2.1 j).2.2.1 = some ty
theorem pt_i (C : Cx M p s m args meth c) (hK : va_K g.2.1 cls (tyG g) s) (hP : va_P g.2.1 cls ws H) (hD : va_D A ws) (hS : va_S A H0 H locs) {i ci j : Nat} {ty : FieldType} {v : Value} {fs : List Value} (hf : FL M.1.cls i ci j) (hW : FW ci j ty) (q0 : Nat) (he : ws[q0]? = some (a, .inr (ci, fs))) (hn : narrow ty v = v) (hfit : fits ty v = true) (hl : j < fs.length) (hd : decode M.2.1 pc = .ok (.putfield i, 3))
    (kk : ∀ (H1 : Heap) (locs1 : List Loc), va_P g.2.1 cls (ws.set q0 (a, .inr (ci, fs.set j v))) H1 → va_D A (ws.set q0 (a, .inr (ci, fs.set j v))) → va_S A H0 H1 locs1 → W p l e R s m args below meth c H1 locs1 cells slots Q (F0 m (pc + 3) ls rest)) : W p l e R s m args below meth c H locs cells slots Q (F0 m pc ls (v :: .ref a :: rest)) := by
  obtain ⟨⟨Rr, T, N⟩, hq, hjN, hw⟩ := hf
  obtain ⟨q2, hq2, hfin, hty⟩ := hW
  have e2 : q2 = (Rr, T, N) := Option.some.inj (hq2.symm.trans hq)
  subst e2
  obtain ⟨-, ty0, hty0, hnm, hcl⟩ := cls_ok ci _ hq
  have hcl2 : (T j).1 = Rr := hcl j
  exact va_put (D := g.2.1) (own := M.1.cls) (ref := Rr) C.1 C.2.1 C.2.2.2.2.2.1 (cls_in hq) ty0 hty0 hnm C.2.2.2.2.1 hK hP hD hS q0 he hq j hjN (C.2.2.2.2.2.1 _ (tbl_link hw)) (fun z hz => by rw [hcl2] at hz; exact hz) hfin hty hn hfit hl hd kk
theorem pt_F (C : Cx M p s m args meth c) (hin : meth.name = "<init>") (hK : va_K g.2.1 cls (tyG g) s) (hP : va_P g.2.1 cls ws H) (hD : va_D A ws) (hS : va_S A H0 H locs) {i ci j : Nat} {ty : FieldType} {v : Value} {fs : List Value} {q : vw_C} (hf : FL M.1.cls i ci j) (hW : FF ci j ty) (hown : cls[ci]? = some q) (hq1 : q.1 = M.1.cls) (q0 : Nat) (he : ws[q0]? = some (a, .inr (ci, fs))) (hn : narrow ty v = v) (hfit : fits ty v = true) (hl : j < fs.length) (hd : decode M.2.1 pc = .ok (.putfield i, 3))
    (kk : ∀ (H1 : Heap) (locs1 : List Loc), va_P g.2.1 cls (ws.set q0 (a, .inr (ci, fs.set j v))) H1 → va_D A (ws.set q0 (a, .inr (ci, fs.set j v))) → va_S A H0 H1 locs1 → W p l e R s m args below meth c H1 locs1 cells slots Q (F0 m (pc + 3) ls rest)) : W p l e R s m args below meth c H locs cells slots Q (F0 m pc ls (v :: .ref a :: rest)) := by
  obtain ⟨⟨Rr, T, N⟩, hq, hjN, hw⟩ := hf
  obtain ⟨q2, hq2, hfin, hty⟩ := hW
  have e2 : q2 = (Rr, T, N) := Option.some.inj (hq2.symm.trans hq)
  subst e2
  have e3 : q = (Rr, T, N) := Option.some.inj (hown.symm.trans hq)
  subst e3
  obtain ⟨-, ty0, hty0, hnm, hcl⟩ := cls_ok ci _ hq
  have hcl2 : (T j).1 = Rr := hcl j
  exact va_putF (D := g.2.1) (own := M.1.cls) (ref := Rr) C.1 C.2.1 C.2.2.2.2.2.1 (cls_in hq) ty0 hty0 hnm C.2.2.2.2.1 hK hP hD hS q0 he hq j hjN (C.2.2.2.2.2.1 _ (tbl_link hw)) (fun z hz => by rw [hcl2] at hz; exact hz) hfin hin (hcl2.trans hq1) hty hn hfit hl hd kk
theorem gt_R (C : Cx M p s m args meth c) (hK : va_K g.2.1 cls (tyG g) s) (hP : va_P g.2.1 cls ws H) {i ci j : Nat} {v : Value} {fs : List Value} (hf : FL M.1.cls i ci j) (q0 : Nat) (he : ws[q0]? = some (a, .inr (ci, fs))) (hv : fs[j]? = some v) (hd : decode M.2.1 pc = .ok (.getfield i, 3)) (kk : W p l e R s m args below meth c H locs cells slots Q (F0 m (pc + 3) ls (v :: rest))) : W p l e R s m args below meth c H locs cells slots Q (F0 m pc ls (.ref a :: rest)) := by
  obtain ⟨⟨Rr, T, N⟩, hq, hjN, hw⟩ := hf
  obtain ⟨-, ty0, -, -, hcl⟩ := cls_ok ci _ hq
  have hcl2 : (T j).1 = Rr := hcl j
  exact va_get (D := g.2.1) (own := M.1.cls) (ref := Rr) C.1 C.2.1 C.2.2.2.2.2.1 (cls_in hq) C.2.2.2.2.1 hK hP q0 he hq j hjN (C.2.2.2.2.2.1 _ (tbl_link hw)) (fun z hz => by rw [hcl2] at hz; exact hz) hv hd kk
/-- a new object of class ci -/
def NO (own : String) (i ci : Nat) : Prop := ∃ q : vw_C, cls[ci]? = some q ∧ Cond.classLink own i q.1 ∈ tbl ∧ Cond.instantiable q.1 q.2.2 ∈ tbl ∧ Cond.initialized q.1 ∈ tbl
def dflt (ci : Nat) : List Value := match cls[ci]? with
  | some q => (List.range q.2.2).map (fun j => defaultValue ((parseFieldDescriptor (q.2.1 j).2.2.1).getD .int))
  | none => []
theorem nw_O (C : Cx M p s m args meth c) (hK : va_K g.2.1 cls (tyG g) s) (hP : va_P g.2.1 cls ws H) (hD : va_D A ws) (hS : va_S A H0 H locs) (hA : ∀ q, H0.size ≤ q → A q) {i ci N : Nat} {fs : List Value} {q : vw_C} (hn : NO M.1.cls i ci) (hci : cls[ci]? = some q) (hN : q.2.2 = N) (hfs : dflt ci = fs) (hc : cells + 1 ≤ R.cells) (hs : slots + N ≤ R.slots) (hd : decode M.2.1 pc = .ok (.new i, 3))
    (kk : ∀ (q : Nat) (H1 : Heap), va_P g.2.1 cls (ws ++ [(q, .inr (ci, fs))]) H1 → va_D A (ws ++ [(q, .inr (ci, fs))]) → va_S A H0 H1 locs → W p l e R s m args below meth c H1 locs (cells + 1) (slots + N) Q (F0 m (pc + 3) ls (.ref q :: rest))) : W p l e R s m args below meth c H locs cells slots Q (F0 m pc ls rest) := by
  obtain ⟨⟨Rr, T, N2⟩, hq, h1, h2, h3⟩ := hn
  have e3 : q = (Rr, T, N2) := Option.some.inj (hci.symm.trans hq)
  subst e3
  have hN2 : N2 = N := hN
  subst hN2
  obtain ⟨-, ty0, hty0, hnm, hcl⟩ := cls_ok ci _ hq
  have hts := C.2.2.2.2.2.1
  refine va_new (ci := ci) (fs := fs) (C := Rr) (T := T) (own := M.1.cls) C.1 C.2.1 hts (cls_in hq) ty0 hty0 C.2.2.2.2.1 (hts _ h1) (hts _ h2) (hts _ h3) hK hP hD hS hA hq (fun j hj => ?_) hc hs hd kk
  subst hfs
  unfold dflt
  rw [hq]
  have e1 := hty0 j hj
  simp only at e1
  simp [vp_V, hj, e1]
theorem ob_I {i : Nat} (C : Cx M p s m args meth c) (hl : ls.size = M.2.2.1) (hw : Cond.methodLink M.1.cls i objectInit ∈ tbl) (hw2 : Cond.instanceMethod objectInit ∈ tbl) (hw3 : Cond.code objectInit ⟨#[0xb1]⟩ 1 none ∈ tbl) (hf : 1 ≤ R.frames) (hlo : 12 + rest.length ≤ R.locals) (hr : rest = []) (hd : decode M.2.1 pc = .ok (.invokespecial i, 3)) (kk : W p l e R s m args below meth c H locs cells slots Q (F0 m (pc + 3) ls rest)) : W p l e R s m args below meth c H locs cells slots Q (F0 m pc ls (.ref a :: rest)) := by
  subst hr
  have hts := C.2.2.2.2.2.1
  refine W.objInit C.1 C.2.1 C.2.2.2.2.1 (hts _ hw) (hts _ hw2) (hts _ hw3) rfl (by rw [C.2.2.2.1]; exact hl) rfl hd hf ?_ ?_
  · show _ ≤ _
    exact hlo
  · exact kk
theorem o_inst : Cond.instanceMethod objectInit ∈ tbl := tbl_in (by decide +kernel) rfl
theorem o_code : Cond.code objectInit ⟨#[0xb1]⟩ 1 none ∈ tbl := tbl_in (by decide +kernel) rfl
end Ctor
