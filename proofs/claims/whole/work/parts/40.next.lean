/-! THE NEXT PIECE OF A GROUP -/
section Next
variable {h : Hp}
/-- the first one of group g from q on, of r pieces, or the end -/
def fo (gr : Nat → Nat) (g : Nat) : Nat → Nat → Nat
  | q, 0 => q
  | q, r + 1 => if gr q = g then q else fo gr g (q + 1) r
def fol (gr : Nat → Nat) (p : Nat) : Nat := fo gr (gr p) (p + 1) (4 - p)
theorem next_L4 {gr : Nat → Nat} {p : Nat} (hg : ∀ i, i < 5 → h 14 i = nI (gr i) ∧ gr i < 5) (hp : p < 5) : ∀ r q n, q + r = 5 → r < n → fS_nextOfGroup_L4 (nI p) n (nI q) h = some (nI (fo gr (gr p) q r), h)
  | 0, q, 0, _, hn => by omega
  | 0, q, n + 1, hq, _ => by
    rw [fS_nextOfGroup_L4, if_pos (by rw [show q = 5 by omega]; decide)]
    rfl
  | r + 1, q, 0, _, hn => by omega
  | r + 1, q, n + 1, hq, hn => by
    rw [fS_nextOfGroup_L4, if_neg (fun z => by have := (n_le (X := 5) (a := 5) rfl rfl (by omega) (by omega)).mp z; omega), rd_at q 5 rfl rfl (by omega), rd_at p 5 rfl rfl hp, (hg q (by omega)).1, (hg p hp).1]
    have l1 := (hg q (by omega)).2
    have l2 := (hg p hp).2
    show _ = some (nI (if gr q = gr p then q else fo gr (gr p) (q + 1) r), h)
    by_cases e : gr q = gr p
    · rw [if_pos (by rw [e]), if_pos e]
      rfl
    · rw [if_neg (fun z => e ((nI_eq (by omega) (by omega)).mp z)), if_neg e, n_s1]
      exact next_L4 hg hp r (q + 1) n (by omega) (by omega)
theorem nextOfGroup_eq {gr : Nat → Nat} {p : Nat} (hg : ∀ i, i < 5 → h 14 i = nI (gr i) ∧ gr i < 5) (hp : p < 5) : fS_nextOfGroup h (nI p) = some (nI (fol gr p), h) := by
  unfold fS_nextOfGroup
  rw [bnd_eq, n_s1]
  exact next_L4 hg hp (4 - p) (p + 1) FU (by omega) (by unfold FU; omega)
end Next
