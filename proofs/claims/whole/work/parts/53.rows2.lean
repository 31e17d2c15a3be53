/-! ROWS of Ev, second part: branches, fields, arrays, calls, returns -/
section EvRows2
variable {M : MI} {d pc : Nat} {L L' : List (Nat × AV)} {S : List AV} {h : Hp} {post : Int32 → Hp → Prop} {A B : RO} {x y : Int32}
theorem sat_t {c : Prop} [Decidable c] (hc : c) (hs : Sat post (if c then A else B)) : Sat post A := by rwa [if_pos hc] at hs
theorem sat_f {c : Prop} [Decidable c] (hc : ¬ c) (hs : Sat post (if c then A else B)) : Sat post B := by rwa [if_neg hc] at hs
theorem ev_if_eq {off : Int} {tgt : Nat} (hd : decode M.2.1 pc = .ok (.ifCond .eq off, 3)) (ht : (pc : Int) + off = (tgt : Int)) (hs : Sat post (if x = 0 then A else B)) (kt : Sat post A → Ev M d tgt L S h post) (kf : Sat post B → Ev M d (pc + 3) L S h post) : Ev M d pc L (.inl x :: S) h post := by
  intro p l e s m args below meth c H locs ls g C hP hK hD hS hl
  exact lv_if_eq C.1 C.2.1 hd ht (fun q => kt (sat_t q hs) p l e s m args below meth c H locs ls g C hP hK hD hS hl) (fun q => kf (sat_f q hs) p l e s m args below meth c H locs ls g C hP hK hD hS hl)
theorem ev_icmp_eq {off : Int} {tgt : Nat} (hd : decode M.2.1 pc = .ok (.if_icmp .eq off, 3)) (ht : (pc : Int) + off = (tgt : Int)) (hs : Sat post (if x = y then A else B)) (kt : Sat post A → Ev M d tgt L S h post) (kf : Sat post B → Ev M d (pc + 3) L S h post) : Ev M d pc L (.inl y :: .inl x :: S) h post := by
  intro p l e s m args below meth c H locs ls g C hP hK hD hS hl
  exact lv_icmp_eq C.1 C.2.1 hd ht (fun q => kt (sat_t q hs) p l e s m args below meth c H locs ls g C hP hK hD hS hl) (fun q => kf (sat_f q hs) p l e s m args below meth c H locs ls g C hP hK hD hS hl)
theorem ev_if_ne {off : Int} {tgt : Nat} (hd : decode M.2.1 pc = .ok (.ifCond .ne off, 3)) (ht : (pc : Int) + off = (tgt : Int)) (hs : Sat post (if x = 0 then B else A)) (kt : Sat post A → Ev M d tgt L S h post) (kf : Sat post B → Ev M d (pc + 3) L S h post) : Ev M d pc L (.inl x :: S) h post := by
  intro p l e s m args below meth c H locs ls g C hP hK hD hS hl
  exact lv_if_ne C.1 C.2.1 hd ht (fun q => kt (sat_f q hs) p l e s m args below meth c H locs ls g C hP hK hD hS hl) (fun q => kf (sat_t q hs) p l e s m args below meth c H locs ls g C hP hK hD hS hl)
theorem ev_icmp_ne {off : Int} {tgt : Nat} (hd : decode M.2.1 pc = .ok (.if_icmp .ne off, 3)) (ht : (pc : Int) + off = (tgt : Int)) (hs : Sat post (if x = y then B else A)) (kt : Sat post A → Ev M d tgt L S h post) (kf : Sat post B → Ev M d (pc + 3) L S h post) : Ev M d pc L (.inl y :: .inl x :: S) h post := by
  intro p l e s m args below meth c H locs ls g C hP hK hD hS hl
  exact lv_icmp_ne C.1 C.2.1 hd ht (fun q => kt (sat_f q hs) p l e s m args below meth c H locs ls g C hP hK hD hS hl) (fun q => kf (sat_t q hs) p l e s m args below meth c H locs ls g C hP hK hD hS hl)
theorem ev_if_lt {off : Int} {tgt : Nat} (hd : decode M.2.1 pc = .ok (.ifCond .lt off, 3)) (ht : (pc : Int) + off = (tgt : Int)) (hs : Sat post (if x < 0 then A else B)) (kt : Sat post A → Ev M d tgt L S h post) (kf : Sat post B → Ev M d (pc + 3) L S h post) : Ev M d pc L (.inl x :: S) h post := by
  intro p l e s m args below meth c H locs ls g C hP hK hD hS hl
  exact lv_if_lt C.1 C.2.1 hd ht (fun q => kt (sat_t q hs) p l e s m args below meth c H locs ls g C hP hK hD hS hl) (fun q => kf (sat_f q hs) p l e s m args below meth c H locs ls g C hP hK hD hS hl)
theorem ev_icmp_lt {off : Int} {tgt : Nat} (hd : decode M.2.1 pc = .ok (.if_icmp .lt off, 3)) (ht : (pc : Int) + off = (tgt : Int)) (hs : Sat post (if x < y then A else B)) (kt : Sat post A → Ev M d tgt L S h post) (kf : Sat post B → Ev M d (pc + 3) L S h post) : Ev M d pc L (.inl y :: .inl x :: S) h post := by
  intro p l e s m args below meth c H locs ls g C hP hK hD hS hl
  exact lv_icmp_lt C.1 C.2.1 hd ht (fun q => kt (sat_t q hs) p l e s m args below meth c H locs ls g C hP hK hD hS hl) (fun q => kf (sat_f q hs) p l e s m args below meth c H locs ls g C hP hK hD hS hl)
theorem ev_if_ge {off : Int} {tgt : Nat} (hd : decode M.2.1 pc = .ok (.ifCond .ge off, 3)) (ht : (pc : Int) + off = (tgt : Int)) (hs : Sat post (if 0 ≤ x then A else B)) (kt : Sat post A → Ev M d tgt L S h post) (kf : Sat post B → Ev M d (pc + 3) L S h post) : Ev M d pc L (.inl x :: S) h post := by
  intro p l e s m args below meth c H locs ls g C hP hK hD hS hl
  exact lv_if_ge C.1 C.2.1 hd ht (fun q => kt (sat_t q hs) p l e s m args below meth c H locs ls g C hP hK hD hS hl) (fun q => kf (sat_f q hs) p l e s m args below meth c H locs ls g C hP hK hD hS hl)
theorem ev_icmp_ge {off : Int} {tgt : Nat} (hd : decode M.2.1 pc = .ok (.if_icmp .ge off, 3)) (ht : (pc : Int) + off = (tgt : Int)) (hs : Sat post (if y ≤ x then A else B)) (kt : Sat post A → Ev M d tgt L S h post) (kf : Sat post B → Ev M d (pc + 3) L S h post) : Ev M d pc L (.inl y :: .inl x :: S) h post := by
  intro p l e s m args below meth c H locs ls g C hP hK hD hS hl
  exact lv_icmp_ge C.1 C.2.1 hd ht (fun q => kt (sat_t q hs) p l e s m args below meth c H locs ls g C hP hK hD hS hl) (fun q => kf (sat_f q hs) p l e s m args below meth c H locs ls g C hP hK hD hS hl)
theorem ev_if_gt {off : Int} {tgt : Nat} (hd : decode M.2.1 pc = .ok (.ifCond .gt off, 3)) (ht : (pc : Int) + off = (tgt : Int)) (hs : Sat post (if 0 < x then A else B)) (kt : Sat post A → Ev M d tgt L S h post) (kf : Sat post B → Ev M d (pc + 3) L S h post) : Ev M d pc L (.inl x :: S) h post := by
  intro p l e s m args below meth c H locs ls g C hP hK hD hS hl
  exact lv_if_gt C.1 C.2.1 hd ht (fun q => kt (sat_t q hs) p l e s m args below meth c H locs ls g C hP hK hD hS hl) (fun q => kf (sat_f q hs) p l e s m args below meth c H locs ls g C hP hK hD hS hl)
theorem ev_icmp_gt {off : Int} {tgt : Nat} (hd : decode M.2.1 pc = .ok (.if_icmp .gt off, 3)) (ht : (pc : Int) + off = (tgt : Int)) (hs : Sat post (if y < x then A else B)) (kt : Sat post A → Ev M d tgt L S h post) (kf : Sat post B → Ev M d (pc + 3) L S h post) : Ev M d pc L (.inl y :: .inl x :: S) h post := by
  intro p l e s m args below meth c H locs ls g C hP hK hD hS hl
  exact lv_icmp_gt C.1 C.2.1 hd ht (fun q => kt (sat_t q hs) p l e s m args below meth c H locs ls g C hP hK hD hS hl) (fun q => kf (sat_f q hs) p l e s m args below meth c H locs ls g C hP hK hD hS hl)
theorem ev_if_le {off : Int} {tgt : Nat} (hd : decode M.2.1 pc = .ok (.ifCond .le off, 3)) (ht : (pc : Int) + off = (tgt : Int)) (hs : Sat post (if x ≤ 0 then A else B)) (kt : Sat post A → Ev M d tgt L S h post) (kf : Sat post B → Ev M d (pc + 3) L S h post) : Ev M d pc L (.inl x :: S) h post := by
  intro p l e s m args below meth c H locs ls g C hP hK hD hS hl
  exact lv_if_le C.1 C.2.1 hd ht (fun q => kt (sat_t q hs) p l e s m args below meth c H locs ls g C hP hK hD hS hl) (fun q => kf (sat_f q hs) p l e s m args below meth c H locs ls g C hP hK hD hS hl)
theorem ev_icmp_le {off : Int} {tgt : Nat} (hd : decode M.2.1 pc = .ok (.if_icmp .le off, 3)) (ht : (pc : Int) + off = (tgt : Int)) (hs : Sat post (if x ≤ y then A else B)) (kt : Sat post A → Ev M d tgt L S h post) (kf : Sat post B → Ev M d (pc + 3) L S h post) : Ev M d pc L (.inl y :: .inl x :: S) h post := by
  intro p l e s m args below meth c H locs ls g C hP hK hD hS hl
  exact lv_icmp_le C.1 C.2.1 hd ht (fun q => kt (sat_t q hs) p l e s m args below meth c H locs ls g C hP hK hD hS hl) (fun q => kf (sat_f q hs) p l e s m args below meth c H locs ls g C hP hK hD hS hl)
theorem ev_bnd {f : Int32 → RO} (hs : Sat post (bnd x f)) (k : ∀ z, Sat post (f z) → Ev M d pc L (.inl z :: S) h post) : Ev M d pc L (.inl x :: S) h post := k x hs
theorem ev_jn {τ : Type} {a : τ} {f : τ → RO} (P : τ → Prop) {G : Prop} (hs : Sat post (jn a f)) (ha : P a) (hb : ∀ j, P j → Sat post (f j) → G) : G := hb a ha hs
theorem sat_cal {o : RO} {f : Int32 → Hp → RO} (hs : Sat post (cal o f)) : Sat (fun r u => Sat post (f r u)) o := by
  cases o with
  | none => exact hs
  | some q => exact hs
theorem Sat.mono {p1 p2 : Int32 → Hp → Prop} {o : RO} (hs : Sat p1 o) (hi : ∀ r u, p1 r u → p2 r u) : Sat p2 o := by
  cases o with
  | none => exact hs
  | some q => exact hi _ _ hs
-- the world's cells
theorem wd_at (g : GG) (h : Hp) {k : Nat} {sp : Sp} (hk : lay[k]? = some sp) : (wd g h)[k]? = some (ce g h k sp) := by
  unfold wd
  rw [List.getElem?_mapIdx, hk]
  rfl
theorem ce_ne (g : GG) (h : Hp) {a k : Nat} (hn : a ≠ k) (j : Nat) (v : Int32) (sp : Sp) : ce g (up h k j v) a sp = ce g h a sp := by
  unfold ce
  cases sp with
  | inl q => simp [up_ne h hn]
  | inr o =>
    have e : fv g (up h k j v) a = fv g h a := by
      funext b f
      cases f <;> simp [fv, up_ne h hn]
    simp [e]
theorem wd_upA (g : GG) (h : Hp) {k n : Nat} {z : Bool} (hk : lay[k]? = some (.inl (z, n))) (j : Nat) (v : Int32) : (wd g h).set k (g.1 k, .inl (bif z then g.2.2.2 else g.2.2.1, n, .inl (upd (h k) j v))) = wd g (up h k j v) := by
  apply List.ext_getElem?
  intro a
  unfold wd
  rw [List.getElem?_set, List.getElem?_mapIdx, List.getElem?_mapIdx, List.length_mapIdx]
  by_cases ha : k = a
  · subst ha
    rw [if_pos rfl, if_pos (show k < lay.length from lay_lt hk), hk]
    simp [ce, up_k]
  · rw [if_neg ha]
    congr 1
    funext sp
    exact (ce_ne g h (fun q => ha q.symm) j v sp).symm
theorem wd_upO (g : GG) (h : Hp) {k ci : Nat} {fs : List (Option Nat)} (hk : lay[k]? = some (.inr (ci, fs))) {j : Nat} (hj : fs[j]? = some none) (v : Int32) : (wd g h).set k (g.1 k, .inr (ci, (fs.mapIdx (fv g h k)).set j (.int v))) = wd g (up h k j v) := by
  apply List.ext_getElem?
  intro a
  unfold wd
  rw [List.getElem?_set, List.getElem?_mapIdx, List.getElem?_mapIdx, List.length_mapIdx]
  by_cases ha : k = a
  · subst ha
    rw [if_pos rfl, if_pos (show k < lay.length from lay_lt hk), hk]
    simp only [Option.map_some, ce]
    congr 3
    congr 1
    apply List.ext_getElem?
    intro b
    rw [List.getElem?_set, List.getElem?_mapIdx, List.getElem?_mapIdx, List.length_mapIdx]
    by_cases hb : j = b
    · subst hb
      rw [if_pos rfl, if_pos (List.getElem?_eq_some_iff.mp hj).1, hj]
      simp [fv, up_k, upd_same]
    · rw [if_neg hb]
      congr 1
      funext f
      cases f
      · simp [fv, up_k, upd_ne (fun q => hb q.symm)]
      · simp [fv]
  · rw [if_neg ha]
    congr 1
    funext sp
    exact (ce_ne g h (fun q => ha q.symm) j v sp).symm
/-- place j of class ci, linked from a class by its pool's place i -/
def FL (own : String) (i ci j : Nat) : Prop := ∃ q : vw_C, cls[ci]? = some q ∧ j < q.2.2 ∧ Cond.fieldLink own i q.1 (q.2.1 j).2.1 (q.2.1 j).2.2.1 ∈ lw_tbl
theorem tbl_link {own ref n dd : String} {i : Nat} (hw : Cond.fieldLink own i ref n dd ∈ lw_tbl) : Cond.fieldLink own i ref n dd ∈ tbl := tbl_in hw rfl
theorem cls_in {ci : Nat} {q : vw_C} (hq : cls[ci]? = some q) : ∀ w ∈ u_ws q.1 q.2.1 q.2.2, w ∈ tbl := fun w hw => tbl_in ((cls_ok ci q hq).1 w hw) (u_good _ _ _ w hw)
theorem ev_getf {i k ci j : Nat} {fs : List (Option Nat)} {f : Option Nat} {v : AV} (hd : decode M.2.1 pc = .ok (.getfield i, 3)) (hf : FL M.1.cls i ci j) (hk : lay[k]? = some (.inr (ci, fs))) (hj : fs[j]? = some f) (hv : ∀ g : GG, fv g h k j f = cv g v) (kk : Ev M d (pc + 3) L (v :: S) h post) : Ev M d pc L (.inr k :: S) h post := by
  intro p l e s m args below meth c H locs ls g C hP hK hD hS hl
  obtain ⟨⟨R, T, N⟩, hq, hjN, hw⟩ := hf
  obtain ⟨-, ty0, -, -, hcl⟩ := cls_ok ci _ hq
  have hcl2 : (T j).1 = R := hcl j
  exact va_get (ws := wd g h) (D := g.2.1) (fs := fs.mapIdx (fv g h k)) (own := M.1.cls) (ref := R) C.1 C.2.1 C.2.2.2.2.2.1 (cls_in hq) C.2.2.2.2.1 hK hP k (wd_at g h hk) hq j hjN (C.2.2.2.2.2.1 _ (tbl_link hw)) (fun z hz => by rw [hcl2] at hz; exact hz) (v := cv g v) (by rw [List.getElem?_mapIdx, hj]; exact congrArg some (hv g)) hd (kk p l e s m args below meth c H locs ls g C hP hK hD hS hl)
theorem ev_getI {i k ci j : Nat} {fs : List (Option Nat)} (hd : decode M.2.1 pc = .ok (.getfield i, 3)) (hf : FL M.1.cls i ci j) (hk : lay[k]? = some (.inr (ci, fs))) (hj : fs[j]? = some none) (kk : Ev M d (pc + 3) L (.inl (h k j) :: S) h post) : Ev M d pc L (.inr k :: S) h post := ev_getf hd hf hk hj (fun _ => rfl) kk
theorem ev_getR {i k ci j r : Nat} {fs : List (Option Nat)} (hd : decode M.2.1 pc = .ok (.getfield i, 3)) (hf : FL M.1.cls i ci j) (hk : lay[k]? = some (.inr (ci, fs))) (hj : fs[j]? = some (some r)) (kk : Ev M d (pc + 3) L (.inr r :: S) h post) : Ev M d pc L (.inr k :: S) h post := ev_getf hd hf hk hj (fun _ => rfl) kk
/-- a field that may be written, of this type -/
def FW (ci j : Nat) (ty : FieldType) : Prop := ∃ q : vw_C, cls[ci]? = some q ∧ (q.2.1 j).2.2.2 = false ∧ parseFieldDescriptor (q.2.1 j).2.2.1 = some ty
theorem ev_putf {i k ci j : Nat} {fs : List (Option Nat)} {ty : FieldType} {f : Hp → RO} (hd : decode M.2.1 pc = .ok (.putfield i, 3)) (hf : FL M.1.cls i ci j) (hW : FW ci j ty) (hk : lay[k]? = some (.inr (ci, fs))) (hj : fs[j]? = some none) (hn : narrow ty (.int x) = .int x) (hfit : fits ty (.int x) = true) (hs : Sat post (f (up h k j x))) (kk : ∀ u, Sat post (f u) → Ev M d (pc + 3) L S u post) : Ev M d pc L (.inl x :: .inr k :: S) h post := by
  intro p l e s m args below meth c H locs ls g C hP hK hD hS hl
  obtain ⟨⟨R, T, N⟩, hq, hjN, hw⟩ := hf
  obtain ⟨q2, hq2, hfin, hty⟩ := hW
  have e2 : q2 = (R, T, N) := Option.some.inj (hq2.symm.trans hq)
  subst e2
  obtain ⟨-, ty0, hty0, hnm, hcl⟩ := cls_ok ci _ hq
  have hcl2 : (T j).1 = R := hcl j
  refine va_put (ws := wd g h) (D := g.2.1) (fs := fs.mapIdx (fv g h k)) (own := M.1.cls) (ref := R) C.1 C.2.1 C.2.2.2.2.2.1 (cls_in hq) ty0 hty0 hnm C.2.2.2.2.1 hK hP hD hS k (wd_at g h hk) hq j hjN (C.2.2.2.2.2.1 _ (tbl_link hw)) (fun z hz => by rw [hcl2] at hz; exact hz) hfin hty hn hfit (by rw [List.length_mapIdx]; exact (List.getElem?_eq_some_iff.mp hj).1) hd (fun H1 locs1 hP1 hD1 hS1 => ?_)
  have hP2 : va_P g.2.1 cls ((wd g h).set k (g.1 k, .inr (ci, (fs.mapIdx (fv g h k)).set j (.int x)))) H1 := hP1
  have hD2 : va_D (gA g) ((wd g h).set k (g.1 k, .inr (ci, (fs.mapIdx (fv g h k)).set j (.int x)))) := hD1
  rw [wd_upO g h hk hj x] at hP2 hD2
  exact kk _ hs p l e s m args below meth c H1 locs1 ls g C hP2 hK hD2 hS1 hl
theorem ev_putI {i k ci j : Nat} {fs : List (Option Nat)} {f : Hp → RO} (hd : decode M.2.1 pc = .ok (.putfield i, 3)) (hf : FL M.1.cls i ci j) (hW : FW ci j .int) (hk : lay[k]? = some (.inr (ci, fs))) (hj : fs[j]? = some none) (hs : Sat post (pt h k j x f)) (kk : ∀ u, Sat post (f u) → Ev M d (pc + 3) L S u post) : Ev M d pc L (.inl x :: .inr k :: S) h post := ev_putf hd hf hW hk hj rfl rfl hs kk
theorem ev_putZ {i k ci j : Nat} {fs : List (Option Nat)} {f : Hp → RO} (hd : decode M.2.1 pc = .ok (.putfield i, 3)) (hf : FL M.1.cls i ci j) (hW : FW ci j .boolean) (hk : lay[k]? = some (.inr (ci, fs))) (hj : fs[j]? = some none) (hs : Sat post (ptz h k j x f)) (kk : ∀ u, Sat post (f u) → Ev M d (pc + 3) L S u post) : Ev M d pc L (.inl x :: .inr k :: S) h post := by
  unfold ptz at hs
  split at hs
  · rename_i hx
    rcases hx with rfl | rfl
    · exact ev_putf hd hf hW hk hj rfl rfl hs kk
    · exact ev_putf hd hf hW hk hj rfl rfl hs kk
  · exact absurd hs id
theorem inA_spec {z : Bool} {k : Nat} {i : Int32} (hi : inA z k i = true) : ∃ n : Nat, lay[k]? = some (.inl (z, n)) ∧ vp_in i n := by
  unfold inA at hi
  split at hi
  · rename_i a ha
    simp only [Bool.and_eq_true, decide_eq_true_eq, beq_iff_eq] at hi
    refine ⟨a.2, by rw [ha, hi.1], fun hn => ?_⟩
    rcases hn with h1 | h1
    · exact absurd h1 (Int32.not_lt.mpr hi.2.1)
    · exact absurd hi.2.2 (Nat.not_lt.mpr h1)
  · cases hi
theorem sat_bif {b : Bool} {o : RO} (hs : Sat post (bif b then o else none)) : b = true ∧ Sat post o := by
  cases b
  · exact absurd hs id
  · exact ⟨rfl, hs⟩
theorem ev_iald {k : Nat} {f : Int32 → RO} (hd : decode M.2.1 pc = .ok (.iaload, 1)) (hs : Sat post (rd h k x f)) (kk : ∀ z, Sat post (f z) → Ev M d (pc + 1) L (.inl z :: S) h post) : Ev M d pc L (.inl x :: .inr k :: S) h post := by
  intro p l e s m args below meth c H locs ls g C hP hK hD hS hl
  obtain ⟨hi, hs⟩ := sat_bif hs
  obtain ⟨n, hk, hin⟩ := inA_spec hi
  exact va_iald (ws := wd g h) (f := h k) C.1 C.2.1 hK hP k 0 (wd_at g h hk) rfl hin hd (kk _ hs p l e s m args below meth c H locs ls g C hP hK hD hS hl)
theorem ev_zald {k : Nat} {f : Int32 → RO} (hd : decode M.2.1 pc = .ok (.baload, 1)) (hs : Sat post (rdz h k x f)) (kk : ∀ z, Sat post (f z) → Ev M d (pc + 1) L (.inl z :: S) h post) : Ev M d pc L (.inl x :: .inr k :: S) h post := by
  intro p l e s m args below meth c H locs ls g C hP hK hD hS hl
  obtain ⟨hi, hs⟩ := sat_bif hs
  obtain ⟨n, hk, hin⟩ := inA_spec hi
  exact va_zald (ws := wd g h) (f := h k) C.1 C.2.1 hK hP k 1 (wd_at g h hk) rfl hin hd (kk _ hs p l e s m args below meth c H locs ls g C hP hK hD hS hl)
theorem ev_iast {k : Nat} {f : Hp → RO} (hd : decode M.2.1 pc = .ok (.iastore, 1)) (hs : Sat post (wr h k x y f)) (kk : ∀ u, Sat post (f u) → Ev M d (pc + 1) L S u post) : Ev M d pc L (.inl y :: .inl x :: .inr k :: S) h post := by
  intro p l e s m args below meth c H locs ls g C hP hK hD hS hl
  obtain ⟨hi, hs⟩ := sat_bif hs
  obtain ⟨n, hk, hin⟩ := inA_spec hi
  refine va_iast (ws := wd g h) (f := h k) C.1 C.2.1 hK hP hD hS k 0 (wd_at g h hk) rfl hin hd (fun H1 locs1 hP1 hD1 hS1 => ?_)
  have hu := wd_upA g h hk x.toNatClampNeg y
  simp only [cond_false] at hu
  simp only [cond_false] at hP1 hD1
  rw [hu] at hP1 hD1
  exact kk _ hs p l e s m args below meth c H1 locs1 ls g C hP1 hK hD1 hS1 hl
theorem ev_zast {k : Nat} {f : Hp → RO} (hd : decode M.2.1 pc = .ok (.bastore, 1)) (hs : Sat post (wrz h k x y f)) (kk : ∀ u, Sat post (f u) → Ev M d (pc + 1) L S u post) : Ev M d pc L (.inl y :: .inl x :: .inr k :: S) h post := by
  intro p l e s m args below meth c H locs ls g C hP hK hD hS hl
  unfold wrz at hs
  split at hs
  · rename_i hy
    have hnar : vp_nar .boolean y = y := by rcases hy with rfl | rfl <;> rfl
    obtain ⟨hi, hs⟩ := sat_bif hs
    obtain ⟨n, hk, hin⟩ := inA_spec hi
    refine va_zast (ws := wd g h) (f := h k) C.1 C.2.1 hK hP hD hS k 1 (wd_at g h hk) rfl hin hd (fun H1 locs1 hP1 hD1 hS1 => ?_)
    rw [hnar] at hP1 hD1
    have hu := wd_upA g h hk x.toNatClampNeg y
    simp only [cond_true] at hu
    simp only [cond_true] at hP1 hD1
    rw [hu] at hP1 hD1
    exact kk _ hs p l e s m args below meth c H1 locs1 ls g C hP1 hK hD1 hS1 hl
  · exact absurd hs id
theorem ev_alen {k n : Nat} {z : Bool} (hd : decode M.2.1 pc = .ok (.arraylength, 1)) (hk : lay[k]? = some (.inl (z, n))) (kk : Ev M d (pc + 1) L (.inl (Int32.ofNat n) :: S) h post) : Ev M d pc L (.inr k :: S) h post := by
  intro p l e s m args below meth c H locs ls g C hP hK hD hS hl
  cases z with
  | false => exact va_alen (ws := wd g h) C.1 C.2.1 hK hP k 0 (wd_at g h hk) rfl rfl hd (kk p l e s m args below meth c H locs ls g C hP hK hD hS hl)
  | true => exact va_alen (ws := wd g h) C.1 C.2.1 hK hP k 1 (wd_at g h hk) rfl rfl hd (kk p l e s m args below meth c H locs ls g C hP hK hD hS hl)
-- answers
theorem ev_iret (hr : M.2.2.2 = some .int) (hd : decode M.2.1 pc = .ok (.ireturn, 1)) (hs : Sat post (ret1 x h)) : Ev M d pc L [.inl x] h post := by
  intro p l e s m args below meth c H locs ls g C hP hK hD hS hl
  have hlocks : meth.locks = false := C.2.2.2.2.2.2.1
  refine W.iret (v := x) C.1 C.2.1 (C.2.2.1.trans hr) (fun t ht hW => ?_) hS.2.2 hd hlocks
  rw [hr]
  exact ⟨⟨x, h, rfl, hs, by rw [ht]; exact hP, va_K.moved hW.alike hK, hD⟩, hS.F ht⟩
theorem ev_zret (hr : M.2.2.2 = some .boolean) (hd : decode M.2.1 pc = .ok (.ireturn, 1)) (hs : Sat post (retz x h)) : Ev M d pc L [.inl x] h post := by
  intro p l e s m args below meth c H locs ls g C hP hK hD hS hl
  have hlocks : meth.locks = false := C.2.2.2.2.2.2.1
  unfold retz at hs
  split at hs
  · rename_i hx
    refine W.zret (v := x) C.1 C.2.1 (C.2.2.1.trans hr) (by rcases hx with rfl | rfl <;> rfl) (fun t ht hW => ?_) hS.2.2 hd hlocks
    rw [hr]
    exact ⟨⟨x, h, rfl, hs, by rw [ht]; exact hP, va_K.moved hW.alike hK, hD⟩, hS.F ht⟩
  · exact absurd hs id
theorem ev_vret (hr : M.2.2.2 = none) (hd : decode M.2.1 pc = .ok (.return_, 1)) (hs : Sat post (ret1 0 h)) : Ev M d pc L [] h post := by
  intro p l e s m args below meth c H locs ls g C hP hK hD hS hl
  have hlocks : meth.locks = false := C.2.2.2.2.2.2.1
  refine W.vret C.1 C.2.1 (C.2.2.1.trans hr) (fun t ht hW => ?_) hS.2.2 hd hlocks
  rw [hr]
  exact ⟨⟨h, rfl, hs, by rw [ht]; exact hP, va_K.moved hW.alike hK, hD⟩, hS.F ht⟩
/-- a method's contract out of its body -/
theorem mt_body {As : List AV} (hy : plainName M.1.cls = true) (hlen : As.length ≤ M.2.2.1) (hL : As.mapIdx (fun i a => (i, a)) = L) (k : Ev M d 0 L [] h post) : Mt M d As h post := by
  intro l g
  refine Met.ofW (cc := M.2.1) (maxL := M.2.2.1) (ret := M.2.2.2) hy rfl ?_
  intro p e s m args below meth c s₁ B hml hv
  obtain ⟨rfl, ⟨hP, hK, hD⟩, hN⟩ := hv
  have hcat : ∀ bs : List AV, lg_sl (bs.map (cv g)) = (bs.map (cv g)).map Slot.val := by
    intro bs
    induction bs with
    | nil => rfl
    | cons a bs ih => cases a <;> simp [lg_sl, cv, Value.category] at ih ⊢ <;> exact ih
  have hargs : ∀ (bs : List AV) (n : Nat), lv_args n (bs.map (cv g)) = cvL g (bs.mapIdx (fun i a => (n + i, a))) := by
    intro bs
    induction bs with
    | nil => intro n; rfl
    | cons a bs ih =>
      intro n
      have e : bs.mapIdx (fun i a => (n + (i + 1), a)) = bs.mapIdx (fun i a => (n + 1 + i, a)) := by
        congr 1
        funext i a
        rw [Nat.add_assoc, Nat.add_comm 1 i]
      rw [List.mapIdx_cons, List.map_cons]
      show lv_args n (cv g a :: bs.map (cv g)) = (n + 0, cv g a) :: cvL g _
      rw [e, ← ih (n + 1)]
      cases a <;> simp [lv_args, cv, Value.category]
  have hl := lv_entry (As.map (cv g)) (n := M.2.2.1) (by rw [hcat]; simpa using hlen)
  rw [lg_entry_eq]
  rw [hargs As 0] at hl
  simp only [Nat.zero_add] at hl
  rw [hL] at hl
  generalize (lg_sl (As.map (cv g)) ++ List.replicate (M.2.2.1 - (lg_sl (As.map (cv g))).length) Slot.unset).toArray = ls at hl ⊢
  have hts := atoms_spec (ws := wsM M) B.pre
  exact k p l e s m _ below meth c s.heap [] ls g ⟨B.exec, B.bytes, B.returns, hml, findClass_of_methodNamed B.named, fun w hw => hts w (List.mem_cons_of_mem _ hw), B.notSynchronized, hN⟩ hP hK hD va_S.rf hl
theorem QQ_mono {ret : Option FieldType} {g : GG} {p1 : Int32 → Hp → Prop} (hi : ∀ r u, p1 r u → post r u) {a : Array Value} {s t : State} {o : Outcome} (hq : QQ ret p1 g a s o t) : QQ ret post g a s o t := by
  cases ret with
  | none =>
    obtain ⟨⟨u, b1, b2, b3⟩, b4⟩ := hq
    exact ⟨⟨u, b1, hi _ _ b2, b3⟩, b4⟩
  | some ty =>
    obtain ⟨⟨r, u, b1, b2, b3⟩, b4⟩ := hq
    exact ⟨⟨r, u, b1, hi _ _ b2, b3⟩, b4⟩
theorem mt_weak {As : List AV} {p1 : Int32 → Hp → Prop} (hi : ∀ r u, p1 r u → post r u) (k : Mt M d As h p1) : Mt M d As h post := by
  intro l g
  have h1 := k l g
  intro p e ha hc hk s m args below hf happ hP hKK
  obtain ⟨t, o, a1, a2, a3, a4, a5⟩ := h1 p e ha hc hk s m args below hf happ hP hKK
  exact ⟨t, o, a1, a2, a3, QQ_mono hi a4, a5⟩
end EvRows2
