/-! ROWS of Ev: an instruction, a row -/
section EvRows
variable {M : MI} {d pc : Nat} {L L' : List (Nat × AV)} {S : List AV} {h : Hp} {post : Int32 → Hp → Prop}
theorem ev_iconst {n : Int} {v : Int32} (hd : decode M.2.1 pc = .ok (.iconst n, 1)) (hv : Int32.ofInt n = v) (k : Ev M d (pc + 1) L (.inl v :: S) h post) : Ev M d pc L S h post := by
  intro p l e s m args below meth c H locs ls g C hP hK hD hS hl
  exact lv_iconst C.1 C.2.1 hd hv (k p l e s m args below meth c H locs ls g C hP hK hD hS hl)
theorem ev_bipush {n : Int} {v : Int32} (hd : decode M.2.1 pc = .ok (.bipush n, 2)) (hv : (Int8.ofInt n).toInt32 = v) (k : Ev M d (pc + 2) L (.inl v :: S) h post) : Ev M d pc L S h post := by
  intro p l e s m args below meth c H locs ls g C hP hK hD hS hl
  exact lv_bipush C.1 C.2.1 hd hv (k p l e s m args below meth c H locs ls g C hP hK hD hS hl)
theorem ev_sipush {n : Int} {v : Int32} (hd : decode M.2.1 pc = .ok (.sipush n, 3)) (hv : (Int16.ofInt n).toInt32 = v) (k : Ev M d (pc + 3) L (.inl v :: S) h post) : Ev M d pc L S h post := by
  intro p l e s m args below meth c H locs ls g C hP hK hD hS hl
  exact lv_sipush C.1 C.2.1 hd hv (k p l e s m args below meth c H locs ls g C hP hK hD hS hl)
theorem ev_ldc {i : Nat} {v : Int32} (hd : decode M.2.1 pc = .ok (.ldc i, 2)) (hw : Cond.constant M.1.cls i v ∈ tbl) (k : Ev M d (pc + 2) L (.inl v :: S) h post) : Ev M d pc L S h post := by
  intro p l e s m args below meth c H locs ls g C hP hK hD hS hl
  exact lv_ldc C.1 C.2.1 C.2.2.2.2.1 (C.2.2.2.2.2.1 _ hw) hd (k p l e s m args below meth c H locs ls g C hP hK hD hS hl)
theorem ev_ldcw {i : Nat} {v : Int32} (hd : decode M.2.1 pc = .ok (.ldc_w i, 3)) (hw : Cond.constant M.1.cls i v ∈ tbl) (k : Ev M d (pc + 3) L (.inl v :: S) h post) : Ev M d pc L S h post := by
  intro p l e s m args below meth c H locs ls g C hP hK hD hS hl
  exact lv_ldcw C.1 C.2.1 C.2.2.2.2.1 (C.2.2.2.2.2.1 _ hw) hd (k p l e s m args below meth c H locs ls g C hP hK hD hS hl)
theorem cvL_at {g : GG} {ls : Array Slot} {nL : Nat} (hl : lv_has ls nL (cvL g L)) (q : Nat) {i : Nat} {v : AV} (hq : L[q]? = some (i, v)) : ls[i]? = some (.val (cv g v)) := lv_at hl q (by simp [cvL, hq])
theorem ev_iload_n {j : Fin 4} {i : Nat} {x : Int32} (hd : decode M.2.1 pc = .ok (.iload_n j, 1)) (q : Nat) (hi : (j : Nat) = i) (hq : L[q]? = some (i, .inl x)) (k : Ev M d (pc + 1) L (.inl x :: S) h post) : Ev M d pc L S h post := by
  intro p l e s m args below meth c H locs ls g C hP hK hD hS hl
  exact lv_iload_n C.1 C.2.1 hd hi (cvL_at hl q hq) (k p l e s m args below meth c H locs ls g C hP hK hD hS hl)
theorem ev_iload {i : Nat} {x : Int32} (hd : decode M.2.1 pc = .ok (.iload i, 2)) (q : Nat) (hq : L[q]? = some (i, .inl x)) (k : Ev M d (pc + 2) L (.inl x :: S) h post) : Ev M d pc L S h post := by
  intro p l e s m args below meth c H locs ls g C hP hK hD hS hl
  exact lv_iload C.1 C.2.1 hd (cvL_at hl q hq) (k p l e s m args below meth c H locs ls g C hP hK hD hS hl)
theorem ev_aload_n {j : Fin 4} {i : Nat} {x : Nat} (hd : decode M.2.1 pc = .ok (.aload_n j, 1)) (q : Nat) (hi : (j : Nat) = i) (hq : L[q]? = some (i, .inr x)) (k : Ev M d (pc + 1) L (.inr x :: S) h post) : Ev M d pc L S h post := by
  intro p l e s m args below meth c H locs ls g C hP hK hD hS hl
  exact lv_aload_n C.1 C.2.1 hd hi (cvL_at hl q hq) (k p l e s m args below meth c H locs ls g C hP hK hD hS hl)
/-- the locals, in the order of their places -/
def lset (i : Nat) (v : AV) : List (Nat × AV) → List (Nat × AV)
  | [] => [(i, v)]
  | q :: l => if q.1 < i then q :: lset i v l else if q.1 = i then (i, v) :: l else (i, v) :: q :: l
theorem lset_mem {i : Nat} {v : AV} : ∀ {l : List (Nat × AV)}, (l.map (·.1)).Pairwise (· < ·) → ∀ q ∈ lset i v l, q = (i, v) ∨ (q ∈ l ∧ q.1 ≠ i)
  | [], _, q, hq => Or.inl (by simpa [lset] using hq)
  | a :: l, hs, q, hq => by
    rw [List.map_cons, List.pairwise_cons] at hs
    unfold lset at hq
    split at hq
    · rename_i hlt
      rcases List.mem_cons.mp hq with h1 | h1
      · exact Or.inr ⟨by rw [h1]; exact List.mem_cons_self, by rw [h1]; omega⟩
      · rcases lset_mem hs.2 q h1 with h2 | h2
        · exact Or.inl h2
        · exact Or.inr ⟨List.mem_cons_of_mem _ h2.1, h2.2⟩
    · rename_i hnl
      split at hq
      · rename_i he
        rcases List.mem_cons.mp hq with h1 | h1
        · exact Or.inl h1
        · have := hs.1 q.1 (List.mem_map.mpr ⟨q, h1, rfl⟩)
          exact Or.inr ⟨List.mem_cons_of_mem _ h1, by omega⟩
      · rename_i hne
        rcases List.mem_cons.mp hq with h1 | h1
        · exact Or.inl h1
        · refine Or.inr ⟨h1, ?_⟩
          rcases List.mem_cons.mp h1 with h2 | h2
          · rw [h2]; exact hne
          · have := hs.1 q.1 (List.mem_map.mpr ⟨q, h2, rfl⟩)
            omega
def srt (L : List (Nat × AV)) : Bool := match L with
  | [] => true
  | a :: l => (match l with
    | [] => true
    | b :: _ => decide (a.1 < b.1)) && srt l
theorem srt_spec : ∀ {L : List (Nat × AV)}, srt L = true → (L.map (·.1)).Pairwise (· < ·)
  | [], _ => List.Pairwise.nil
  | [a], _ => by simp
  | a :: b :: l, h => by
    unfold srt at h
    simp only [Bool.and_eq_true, decide_eq_true_eq] at h
    have ih := srt_spec h.2
    rw [List.map_cons, List.pairwise_cons]
    refine ⟨fun x hx => ?_, ih⟩
    rw [List.map_cons] at hx
    rcases List.mem_cons.mp hx with h1 | h1
    · rw [h1]; exact h.1
    · rw [List.map_cons, List.pairwise_cons] at ih
      have := ih.1 x h1
      omega
theorem cv_cat (g : GG) (v : AV) : (cv g v).category = 1 := by cases v <;> rfl
theorem lset_has {g : GG} {ls' : Array Slot} {nL i : Nat} {v : AV} (hs : srt L = true) (hL : lset i v L = L') (hh : lv_has ls' nL ((i, cv g v) :: (cvL g L).filter (fun q => !(q.1 == i) && !(q.1 + 1 == i && q.2.category == 2)))) : lv_has ls' nL (cvL g L') := by
  refine ⟨hh.1, hh.2.1, fun q hq => ?_⟩
  obtain ⟨q0, h0, rfl⟩ := List.mem_map.mp hq
  rw [← hL] at h0
  rcases lset_mem (srt_spec hs) q0 h0 with h1 | ⟨h1, h2⟩
  · rw [h1]
    exact hh.2.2 (i, cv g v) List.mem_cons_self
  · refine hh.2.2 (q0.1, cv g q0.2) (List.mem_cons_of_mem _ (List.mem_filter.mpr ⟨List.mem_map.mpr ⟨q0, h1, rfl⟩, ?_⟩))
    simp [h2, cv_cat]
theorem ev_istore_n {j : Fin 4} {i : Nat} {x : Int32} (hd : decode M.2.1 pc = .ok (.istore_n j, 1)) (hi : (j : Nat) = i) (hs : srt L = true) (hn : i < M.2.2.1) (hL : lset i (.inl x) L = L') (k : Ev M d (pc + 1) L' S h post) : Ev M d pc L (.inl x :: S) h post := by
  intro p l e s m args below meth c H locs ls g C hP hK hD hS hl
  exact lv_istore_n C.1 C.2.1 hd hi hl hn rfl (fun ls' hl' => k p l e s m args below meth c H locs ls' g C hP hK hD hS (lset_has hs hL hl'))
theorem ev_istore {i : Nat} {x : Int32} (hd : decode M.2.1 pc = .ok (.istore i, 2)) (hs : srt L = true) (hn : i < M.2.2.1) (hL : lset i (.inl x) L = L') (k : Ev M d (pc + 2) L' S h post) : Ev M d pc L (.inl x :: S) h post := by
  intro p l e s m args below meth c H locs ls g C hP hK hD hS hl
  exact lv_istore C.1 C.2.1 hd hl hn rfl (fun ls' hl' => k p l e s m args below meth c H locs ls' g C hP hK hD hS (lset_has hs hL hl'))
theorem ev_iinc {i : Nat} {n : Int} {x v : Int32} (hd : decode M.2.1 pc = .ok (.iinc i n, 3)) (q : Nat) (hq : L[q]? = some (i, .inl x)) (hv : x + Int32.ofInt n = v) (hs : srt L = true) (hn : i < M.2.2.1) (hL : lset i (.inl v) L = L') (k : Ev M d (pc + 3) L' S h post) : Ev M d pc L S h post := by
  intro p l e s m args below meth c H locs ls g C hP hK hD hS hl
  exact lv_iinc C.1 C.2.1 hd hl (k := q) (x := x) (by simp [cvL, hq, cv]) hv hn rfl (fun ls' hl' => k p l e s m args below meth c H locs ls' g C hP hK hD hS (lset_has hs hL hl'))
theorem ev_sub (L' : List (Nat × AV)) (ks : List Nat) (hL : ks.filterMap (fun k => L[k]?) = L') (k : Ev M d pc L' S h post) : Ev M d pc L S h post := by
  intro p l e s m args below meth c H locs ls g C hP hK hD hS hl
  refine k p l e s m args below meth c H locs ls g C hP hK hD hS ⟨hl.1, hl.2.1, fun q hq => ?_⟩
  obtain ⟨q0, h0, rfl⟩ := List.mem_map.mp hq
  rw [← hL] at h0
  obtain ⟨i, -, hi⟩ := List.mem_filterMap.mp h0
  exact hl.2.2 _ (List.mem_map.mpr ⟨q0, List.mem_of_getElem? hi, rfl⟩)
section Bin
variable {x y : Int32}
theorem ev_iadd (hd : decode M.2.1 pc = .ok (.iadd, 1)) (k : Ev M d (pc + 1) L (.inl (x + y) :: S) h post) : Ev M d pc L (.inl y :: .inl x :: S) h post := by
  intro p l e s m args below meth c H locs ls g C hP hK hD hS hl
  exact lv_iadd C.1 C.2.1 hd (k p l e s m args below meth c H locs ls g C hP hK hD hS hl)
theorem ev_isub (hd : decode M.2.1 pc = .ok (.isub, 1)) (k : Ev M d (pc + 1) L (.inl (x - y) :: S) h post) : Ev M d pc L (.inl y :: .inl x :: S) h post := by
  intro p l e s m args below meth c H locs ls g C hP hK hD hS hl
  exact lv_isub C.1 C.2.1 hd (k p l e s m args below meth c H locs ls g C hP hK hD hS hl)
theorem ev_imul (hd : decode M.2.1 pc = .ok (.imul, 1)) (k : Ev M d (pc + 1) L (.inl (x * y) :: S) h post) : Ev M d pc L (.inl y :: .inl x :: S) h post := by
  intro p l e s m args below meth c H locs ls g C hP hK hD hS hl
  exact lv_imul C.1 C.2.1 hd (k p l e s m args below meth c H locs ls g C hP hK hD hS hl)
theorem ev_iand (hd : decode M.2.1 pc = .ok (.iand, 1)) (k : Ev M d (pc + 1) L (.inl (x &&& y) :: S) h post) : Ev M d pc L (.inl y :: .inl x :: S) h post := by
  intro p l e s m args below meth c H locs ls g C hP hK hD hS hl
  exact lv_iand C.1 C.2.1 hd (k p l e s m args below meth c H locs ls g C hP hK hD hS hl)
theorem ev_ior (hd : decode M.2.1 pc = .ok (.ior, 1)) (k : Ev M d (pc + 1) L (.inl (x ||| y) :: S) h post) : Ev M d pc L (.inl y :: .inl x :: S) h post := by
  intro p l e s m args below meth c H locs ls g C hP hK hD hS hl
  exact lv_ior C.1 C.2.1 hd (k p l e s m args below meth c H locs ls g C hP hK hD hS hl)
theorem ev_ixor (hd : decode M.2.1 pc = .ok (.ixor, 1)) (k : Ev M d (pc + 1) L (.inl (x ^^^ y) :: S) h post) : Ev M d pc L (.inl y :: .inl x :: S) h post := by
  intro p l e s m args below meth c H locs ls g C hP hK hD hS hl
  exact lv_ixor C.1 C.2.1 hd (k p l e s m args below meth c H locs ls g C hP hK hD hS hl)
theorem ev_ishl (hd : decode M.2.1 pc = .ok (.ishl, 1)) (k : Ev M d (pc + 1) L (.inl (x <<< (y &&& 31)) :: S) h post) : Ev M d pc L (.inl y :: .inl x :: S) h post := by
  intro p l e s m args below meth c H locs ls g C hP hK hD hS hl
  exact lv_ishl C.1 C.2.1 hd (k p l e s m args below meth c H locs ls g C hP hK hD hS hl)
theorem ev_ishr (hd : decode M.2.1 pc = .ok (.ishr, 1)) (k : Ev M d (pc + 1) L (.inl (x >>> (y &&& 31)) :: S) h post) : Ev M d pc L (.inl y :: .inl x :: S) h post := by
  intro p l e s m args below meth c H locs ls g C hP hK hD hS hl
  exact lv_ishr C.1 C.2.1 hd (k p l e s m args below meth c H locs ls g C hP hK hD hS hl)
theorem ev_iushr (hd : decode M.2.1 pc = .ok (.iushr, 1)) (k : Ev M d (pc + 1) L (.inl (ush x y) :: S) h post) : Ev M d pc L (.inl y :: .inl x :: S) h post := by
  intro p l e s m args below meth c H locs ls g C hP hK hD hS hl
  exact lv_iushr C.1 C.2.1 hd rfl (k p l e s m args below meth c H locs ls g C hP hK hD hS hl)
theorem ev_idiv {f : Int32 → RO} (hd : decode M.2.1 pc = .ok (.idiv, 1)) (hs : Sat post (dv x y f)) (k : ∀ z, Sat post (f z) → Ev M d (pc + 1) L (.inl z :: S) h post) : Ev M d pc L (.inl y :: .inl x :: S) h post := by
  intro p l e s m args below meth c H locs ls g C hP hK hD hS hl
  unfold dv at hs
  split at hs
  · exact absurd hs id
  · rename_i hy
    exact lv_idiv C.1 C.2.1 hd hy (k _ hs p l e s m args below meth c H locs ls g C hP hK hD hS hl)
theorem ev_irem {f : Int32 → RO} (hd : decode M.2.1 pc = .ok (.irem, 1)) (hs : Sat post (rm_ x y f)) (k : ∀ z, Sat post (f z) → Ev M d (pc + 1) L (.inl z :: S) h post) : Ev M d pc L (.inl y :: .inl x :: S) h post := by
  intro p l e s m args below meth c H locs ls g C hP hK hD hS hl
  unfold rm_ at hs
  split at hs
  · exact absurd hs id
  · rename_i hy
    exact lv_irem C.1 C.2.1 hd hy (k _ hs p l e s m args below meth c H locs ls g C hP hK hD hS hl)
theorem ev_dup {v : AV} (hd : decode M.2.1 pc = .ok (.dup, 1)) (k : Ev M d (pc + 1) L (v :: v :: S) h post) : Ev M d pc L (v :: S) h post := by
  intro p l e s m args below meth c H locs ls g C hP hK hD hS hl
  exact lv_dup C.1 C.2.1 hd (cv_cat g v) (k p l e s m args below meth c H locs ls g C hP hK hD hS hl)
theorem ev_pop {v : AV} (hd : decode M.2.1 pc = .ok (.pop, 1)) (k : Ev M d (pc + 1) L S h post) : Ev M d pc L (v :: S) h post := by
  intro p l e s m args below meth c H locs ls g C hP hK hD hS hl
  exact lv_pop C.1 C.2.1 hd (cv_cat g v) (k p l e s m args below meth c H locs ls g C hP hK hD hS hl)
theorem ev_dup2 {v w : AV} (hd : decode M.2.1 pc = .ok (.dup2, 1)) (k : Ev M d (pc + 1) L (v :: w :: v :: w :: S) h post) : Ev M d pc L (v :: w :: S) h post := by
  intro p l e s m args below meth c H locs ls g C hP hK hD hS hl
  exact lv_dup2_11 C.1 C.2.1 hd (cv_cat g v) (cv_cat g w) (k p l e s m args below meth c H locs ls g C hP hK hD hS hl)
theorem ev_goto {off : Int} {tgt : Nat} (hd : decode M.2.1 pc = .ok (.goto off, 3)) (ht : (pc : Int) + off = (tgt : Int)) (k : Ev M d tgt L S h post) : Ev M d pc L S h post := by
  intro p l e s m args below meth c H locs ls g C hP hK hD hS hl
  exact lv_goto C.1 C.2.1 hd ht (k p l e s m args below meth c H locs ls g C hP hK hD hS hl)
end Bin
end EvRows
