/-! UNSEEN, MANY -/
section Many
variable {σ : Sg} {h : Hp}
theorem rm_at {a b : Nat} {f : Int32 → RO} (ha : a < 2 ^ 31) (h0 : 0 < b) (hb : b < 2 ^ 31) : rm_ (nI a) (nI b) f = f (nI (a % b)) := by
  unfold rm_
  rw [if_neg (nI_ne0 h0 hb), pk_rem ha h0 hb]
theorem dv_at {a b : Nat} {f : Int32 → RO} (ha : a < 2 ^ 31) (h0 : 0 < b) (hb : b < 2 ^ 31) : dv (nI a) (nI b) f = f (nI (a / b)) := by
  unfold dv
  rw [if_neg (nI_ne0 h0 hb), pk_div ha h0 hb]
theorem m1_add (a : Nat) : nI (a + 1) + (-1) = nI a := by
  rw [← n_s1, Int32.add_assoc]
  exact nI_z a
theorem cleared_eq {a b : Nat} (a0 : 0 < a) (a1 : a ≤ 1000) (b0 : 0 < b) (b1 : b ≤ 1000) : fX_cleared h (nI a) (nI b) = some (nI (a / Nat.gcd a b), h) := by
  have g0 := Nat.gcd_pos_of_pos_left b a0
  have g1 := Nat.gcd_le_left b a0
  have d1 := Nat.gcd_dvd_left a b
  have d2 := Nat.gcd_dvd_right a b
  unfold fX_cleared
  refine loopS (fun n (x : Int32 × Hp) => fX_cleared_L2 (fun x2_19 h19 => dv (nI a) x2_19 (fun q21 => ret1 q21 h19)) (nI a) (nI b) n x.1 x.2) (fun t => (nI (a - t), h)) _ (a - Nat.gcd a b) (by omega) ?_ ?_ 0 (by omega)
  · intro t n ht
    show fX_cleared_L2 _ (nI a) (nI b) (n + 1) (nI (a - t)) h = fX_cleared_L2 _ (nI a) (nI b) n (nI (a - (t + 1))) h
    have e : nI (a - t) + (-1) = nI (a - (t + 1)) := by
      rw [show a - t = (a - (t + 1)) + 1 by omega]
      exact m1_add _
    rw [fX_cleared_L2, if_neg (fun z => by have := (n_le (Y := 1) (b := 1) rfl rfl (by omega) (by omega)).mp z; omega), rm_at (by omega) (by omega) (by omega), jn_eq, e]
    have lt1 := Nat.mod_lt a (show a - t > 0 by omega)
    have lt2 := Nat.mod_lt b (show a - t > 0 by omega)
    by_cases q : a % (a - t) = 0
    · rw [if_pos (by rw [q]; rfl), rm_at (by omega) (by omega) (by omega)]
      have q2 : ¬ b % (a - t) = 0 := fun z => by
        have := Nat.le_of_dvd g0 (Nat.dvd_gcd (Nat.dvd_of_mod_eq_zero q) (Nat.dvd_of_mod_eq_zero z))
        omega
      rw [if_neg (fun z => q2 ((n_eq (Y := 0) (b := 0) rfl rfl (by omega) (by omega)).mp z))]
    · rw [if_neg (fun z => q ((n_eq (Y := 0) (b := 0) rfl rfl (by omega) (by omega)).mp z))]
  · intro n
    show fX_cleared_L2 _ (nI a) (nI b) (n + 1) (nI (a - (a - Nat.gcd a b))) h = _
    rw [show a - (a - Nat.gcd a b) = Nat.gcd a b by omega, fX_cleared_L2]
    by_cases q : Nat.gcd a b ≤ 1
    · rw [if_pos ((n_le (Y := 1) (b := 1) rfl rfl (by omega) (by omega)).mpr q), show Nat.gcd a b = 1 by omega, Nat.div_one]
      rfl
    · rw [if_neg (fun z => q ((n_le (Y := 1) (b := 1) rfl rfl (by omega) (by omega)).mp z)), rm_at (by omega) (by omega) (by omega), jn_eq, Nat.mod_eq_zero_of_dvd d1, if_pos (show nI 0 = 0 from rfl), rm_at (by omega) (by omega) (by omega), Nat.mod_eq_zero_of_dvd d2, if_pos (show nI 0 = 0 from rfl), dv_at (by omega) (by omega) (by omega)]
      rfl
theorem common_eq {a b : Nat} (ha : a < 2 ^ 30) (hb : b < 90000) : fM_common h (nI a) (nI b) = some (nI (Nat.gcd a b), h) := by
  have key : ∀ n x y, y < n → x < 2 ^ 30 → y < 2 ^ 30 → fM_common_L4 n (nI x) (nI y) h = some (nI (Nat.gcd x y), h) := by
    intro n
    induction n with
    | zero => intro x y hy; omega
    | succ n ih =>
      intro x y hy hx hy2
      rw [fM_common_L4]
      by_cases q : y = 0
      · rw [if_pos (by rw [q]; rfl), q, Nat.gcd_zero_right]
        rfl
      · have lt := Nat.mod_lt x (show y > 0 by omega)
        rw [if_neg (fun z => q ((n_eq (Y := 0) (b := 0) rfl rfl (by omega) (by omega)).mp z)), rm_at (by omega) (by omega) (by omega), ih y (x % y) (by omega) (by omega) (by omega), Nat.gcd_comm x y, Nat.gcd_rec y x, Nat.gcd_comm (x % y) y]
  unfold fM_common
  exact key FU a b (by unfold FU; omega) ha (by omega)
theorem cntP_not (f : Nat → Bool) : ∀ n, cntP f n + cntP (fun x => !f x) n = n
  | 0 => rfl
  | n + 1 => by
    have ih := cntP_not f n
    cases q : f n with
    | true =>
      rw [cntP_t q, cntP_f (f := fun x => !f x) (show (!f n) = false by rw [q]; rfl)]
      omega
    | false =>
      rw [cntP_f q, cntP_t (f := fun x => !f x) (show (!f n) = true by rw [q]; rfl)]
      omega
theorem oo_dec : ∀ o, o < 10 → nI o * (nI o - 1) = nI (o * (o - 1)) := by decide +kernel
/-- the estimate's two numbers -/
def ua (o t : Nat) : Nat := if t = 0 then o * (o - 1) else o * o
def ub (t : Nat) : Nat := if t = 0 then 2 else 2 * t
theorem ua_le : ∀ o, o < 10 → ∀ t, t < 10 → ua o t ≤ 81 ∧ 0 < ub t ∧ ub t ≤ 18 := by decide +kernel
theorem munseen_end {c1 c2 : Nat} {x2 x1 : Int32} (l1 : c1 < 10) (l2 : c2 < 10) : jn (τ := Int32 → Hp → RO) (fun s112 h112 => jn (τ := Int32 → Hp → RO) (fun s127 h127 => cal (fM_common h127 s112 s127) (fun r133 h133 => (if x1 = 0 then ret1 x2 h133 else (if x1 = 1 then dv s112 r133 (fun q155 => ret1 q155 h133) else dv s127 r133 (fun q163 => ret1 q163 h133))))) (fun j127 => (if nI c2 ≤ 0 then j127 2 h112 else j127 (2 * nI c2) h112))) (fun j112 => (if nI c2 ≤ 0 then j112 (nI c1 * (nI c1 - 1)) h else j112 (nI c1 * nI c1) h)) = if x1 = 0 then some (x2, h) else if x1 = 1 then some (nI (ua c1 c2 / Nat.gcd (ua c1 c2) (ub c2)), h) else some (nI (ub c2 / Nat.gcd (ua c1 c2) (ub c2)), h) := by
  obtain ⟨b1, b2, b3⟩ := ua_le c1 l1 c2 l2
  have g0 := Nat.gcd_pos_of_pos_right (ua c1 c2) b2
  have g1 : Nat.gcd (ua c1 c2) (ub c2) ≤ ub c2 := Nat.le_of_dvd b2 (Nat.gcd_dvd_right _ _)
  have go : cal (fM_common h (nI (ua c1 c2)) (nI (ub c2))) (fun r133 h133 => (if x1 = 0 then ret1 x2 h133 else (if x1 = 1 then dv (nI (ua c1 c2)) r133 (fun q155 => ret1 q155 h133) else dv (nI (ub c2)) r133 (fun q163 => ret1 q163 h133)))) = if x1 = 0 then some (x2, h) else if x1 = 1 then some (nI (ua c1 c2 / Nat.gcd (ua c1 c2) (ub c2)), h) else some (nI (ub c2 / Nat.gcd (ua c1 c2) (ub c2)), h) := by
    rw [common_eq (by omega) (by omega), cal_some, dv_at (by omega) g0 (by omega), dv_at (by omega) g0 (by omega)]
    rfl
  simp only [jn_eq]
  by_cases q : c2 = 0
  · rw [if_pos (show nI c2 ≤ 0 by rw [q]; decide), if_pos (show nI c2 ≤ 0 by rw [q]; decide), oo_dec c1 l1]
    have e1 : ua c1 c2 = c1 * (c1 - 1) := if_pos q
    have e2 : ub c2 = 2 := if_pos q
    rw [e1, e2] at go ⊢
    exact go
  · have nq : ¬ nI c2 ≤ 0 := fun z => by have := (n_le (Y := 0) (b := 0) rfl rfl (by omega) (by omega)).mp z; omega
    rw [if_neg nq, if_neg nq, n_mul, show (2 : Int32) = nI 2 from rfl, n_mul]
    have e1 : ua c1 c2 = c1 * c1 := if_neg q
    have e2 : ub c2 = 2 * c2 := if_neg q
    rw [e1, e2] at go ⊢
    exact go
theorem unseen_end {c1 c2 t : Nat} (l1 : c1 < 10) (l2 : c2 < 10) (ht : t = 1 ∨ t = 2) : jn (τ := Int32 → Hp → RO) (fun s72 h72 => jn (τ := Int32 → Hp → RO) (fun s85 h85 => (if s72 = 0 then (if nI t = 1 then ret1 0 h85 else ret1 1 h85) else jn (τ := Int32 → Hp → RO) (fun s115 h115 => jn (τ := Int32 → Hp → RO) (fun s127 h127 => cal (fX_cleared h127 s115 s127) (fun r127 h127 => ret1 r127 h127)) (fun j127 => (if nI t = 1 then j127 s85 h115 else j127 s72 h115))) (fun j115 => (if nI t = 1 then j115 s72 h85 else j115 s85 h85)))) (fun j85 => (if nI c2 ≤ 0 then j85 2 h72 else j85 (2 * nI c2) h72))) (fun j72 => (if nI c2 ≤ 0 then j72 (nI c1 * (nI c1 - 1)) h else j72 (nI c1 * nI c1) h)) = some (if t = 1 then nI (ua c1 c2 / Nat.gcd (ua c1 c2) (ub c2)) else nI (ub c2 / Nat.gcd (ua c1 c2) (ub c2)), h) := by
  obtain ⟨b1, b2, b3⟩ := ua_le c1 l1 c2 l2
  have go : (if nI (ua c1 c2) = 0 then (if nI t = 1 then ret1 0 h else ret1 1 h) else (if nI t = 1 then (if nI t = 1 then cal (fX_cleared h (nI (ua c1 c2)) (nI (ub c2))) (fun r127 h127 => ret1 r127 h127) else cal (fX_cleared h (nI (ua c1 c2)) (nI (ua c1 c2))) (fun r127 h127 => ret1 r127 h127)) else (if nI t = 1 then cal (fX_cleared h (nI (ub c2)) (nI (ub c2))) (fun r127 h127 => ret1 r127 h127) else cal (fX_cleared h (nI (ub c2)) (nI (ua c1 c2))) (fun r127 h127 => ret1 r127 h127)))) = some (if t = 1 then nI (ua c1 c2 / Nat.gcd (ua c1 c2) (ub c2)) else nI (ub c2 / Nat.gcd (ua c1 c2) (ub c2)), h) := by
    by_cases z : ua c1 c2 = 0
    · rw [if_pos (show nI (ua c1 c2) = 0 by rw [z]; rfl), z, Nat.gcd_zero_left, Nat.zero_div, Nat.div_self b2]
      rcases ht with e | e
      · subst e; rfl
      · subst e; rfl
    · rw [if_neg (fun y => z ((n_eq (Y := 0) (b := 0) rfl rfl (by omega) (by omega)).mp y))]
      rcases ht with e | e
      · subst e
        rw [if_pos (show nI 1 = 1 from rfl), if_pos (show nI 1 = 1 from rfl), cleared_eq (by omega) (by omega) b2 (by omega), cal_some]
        rfl
      · subst e
        rw [if_neg (show ¬ nI 2 = 1 by decide), if_neg (show ¬ nI 2 = 1 by decide), cleared_eq b2 (by omega) (by omega) (by omega), cal_some, Nat.gcd_comm]
        rfl
  simp only [jn_eq]
  by_cases q : c2 = 0
  · rw [if_pos (show nI c2 ≤ 0 by rw [q]; decide), if_pos (show nI c2 ≤ 0 by rw [q]; decide), oo_dec c1 l1]
    have e1 : ua c1 c2 = c1 * (c1 - 1) := if_pos q
    have e2 : ub c2 = 2 := if_pos q
    rw [e1, e2] at go ⊢
    exact go
  · have nq : ¬ nI c2 ≤ 0 := fun z => by have := (n_le (Y := 0) (b := 0) rfl rfl (by omega) (by omega)).mp z; omega
    rw [if_neg nq, if_neg nq, n_mul, show (2 : Int32) = nI 2 from rfl, n_mul]
    have e1 : ua c1 c2 = c1 * c1 := if_neg q
    have e2 : ub c2 = 2 * c2 := if_neg q
    rw [e1, e2] at go ⊢
    exact go
end Many
