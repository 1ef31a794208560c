/-! A rule worked out. Tokens as the reference codes them: below 1000 a number, 1000 + k a thing, 2000 + a a sign between, 3000 minus ahead. -/
def rch : Nat → Nat
  | 0 => 60
  | 1 => 62
  | 2 => 61
  | 3 => 43
  | 4 => 45
  | 5 => 42
  | _ => 47
def wk (a : Nat) (x y : Int32) : Int32 := match a with
  | 0 => fl (decide (x < y))
  | 1 => fl (decide (y < x))
  | 2 => fl (decide (x = y))
  | 3 => x + y
  | 4 => x - y
  | 5 => x * y
  | _ => if y = 0 then 0 else x / y
/-- a token in the class's code -/
def cT (t : Nat) : Int32 := if t < 1000 then nI t else if t < 2000 then -(nI (t - 999)) else if t = 3000 then -256 else -(nI (rch (t - 2000)))
/-- one token on the stack, its top last -/
def stp (th : Nat → Int32) (t : Nat) (s : List Int32) : List Int32 := if t < 1000 then s ++ [nI t] else if t < 2000 then s ++ [th (t - 1000)] else if t = 3000 then s.dropLast ++ [-(s.getLastD 0)] else s.dropLast.dropLast ++ [wk (t - 2000) (s.dropLast.getLastD 0) (s.getLastD 0)]
def rrun (th : Nat → Int32) (T : Nat → Nat) : Nat → List Int32
  | 0 => []
  | k + 1 => stp th (T k) (rrun th T k)
def rdp (T : Nat → Nat) : Nat → Nat
  | 0 => 0
  | k + 1 => if T k < 2000 then rdp T k + 1 else if T k = 3000 then rdp T k else rdp T k - 1
/-- tokens that can be worked out -/
def okT (T : Nat → Nat) (n : Nat) : Prop := n ≤ 40 ∧ rdp T n = 1 ∧ ∀ k, k < n → T k < 1000 ∨ (1000 ≤ T k ∧ T k < 1007) ∨ (2000 ≤ T k ∧ T k < 2007 ∧ 2 ≤ rdp T k) ∨ (T k = 3000 ∧ 1 ≤ rdp T k)
theorem rdp_le (T : Nat → Nat) : ∀ k, rdp T k ≤ k
  | 0 => Nat.le_refl _
  | k + 1 => by
    have := rdp_le T k
    rw [rdp]
    split
    · omega
    · split <;> omega
theorem rrun_len {th : Nat → Int32} {T : Nat → Nat} {n : Nat} (h : okT T n) : ∀ {k : Nat}, k ≤ n → (rrun th T k).length = rdp T k
  | 0, _ => rfl
  | k + 1, hk => by
    have ih := rrun_len (th := th) h (k := k) (by omega)
    have ht := h.2.2 k (by omega)
    rw [rrun, rdp, stp]
    by_cases h1 : T k < 1000
    · rw [if_pos h1, if_pos (by omega)]; simp [ih]
    · rw [if_neg h1]
      by_cases h2 : T k < 2000
      · rw [if_pos h2, if_pos h2]; simp [ih]
      · rw [if_neg h2, if_neg h2]
        by_cases h3 : T k = 3000
        · rw [if_pos h3, if_pos h3]; simp [ih]; omega
        · rw [if_neg h3, if_neg h3]; simp [ih]; omega
section RU
variable {h : Bool × Nat × Nat} {I : Nat → Nat → Int32} {L : Nat → Nat → Int64}
theorem c_between (d : Nat) {a : Nat} (ha : a < 7) (x y : Int32) : ev_do (d + 1) M_Rule_between [.int (nI (rch a)), .int x, .int y] (ev_mk h I L) = ev_ri (wk a x y) (ev_mk h I L) := by
  rw [e_Rule_between_0]
  match a, ha with
  | 0, _ =>
    simp only [rch, wk]
    rw [if_neg (by decide), if_neg (by decide), if_neg (by decide), if_pos (by decide)]
    by_cases e : x < y
    · rw [if_pos e, decide_eq_true e]; rfl
    · rw [if_neg e, decide_eq_false e]; rfl
  | 1, _ =>
    simp only [rch, wk]
    rw [if_neg (by decide), if_neg (by decide), if_neg (by decide), if_neg (by decide), if_neg (by decide), if_pos (by decide)]
    by_cases e : y < x
    · rw [if_pos e, decide_eq_true e]; rfl
    · rw [if_neg e, decide_eq_false e]; rfl
  | 2, _ =>
    simp only [rch, wk]
    rw [if_neg (by decide), if_neg (by decide), if_neg (by decide), if_neg (by decide), if_pos (by decide)]
    by_cases e : x = y
    · rw [if_pos e, decide_eq_true e]; rfl
    · rw [if_neg e, decide_eq_false e]; rfl
  | 3, _ => simp only [rch, wk]; rw [if_neg (by decide), if_pos (by decide)]
  | 4, _ => simp only [rch, wk]; rw [if_neg (by decide), if_neg (by decide), if_pos (by decide)]
  | 5, _ => simp only [rch, wk]; rw [if_pos (by decide)]
  | 6, _ =>
    simp only [rch, wk]
    rw [if_neg (by decide), if_neg (by decide), if_neg (by decide), if_neg (by decide), if_neg (by decide), if_neg (by decide)]
    by_cases e : y = 0
    · rw [if_pos e, if_pos e]
    · rw [if_neg e, if_neg e]
      first | rfl | (rw [if_neg e])
/-- the rule k's stack holds s -/
def stk (k : Nat) (J : Nat → Nat → Int32) (s : List Int32) : Prop := J k 3 = nI s.length ∧ ∀ j, j < s.length → J (k + 2) j = s.getD j 0
/-- only the stack of the rule k has changed -/
def rch2 (k : Nat) (I J : Nat → Nat → Int32) : Prop := exc [k, k + 2] I J ∧ ∀ b, b ≠ 3 → J k b = I k b
theorem rch2.rf {k : Nat} : rch2 k I I := ⟨exc.rf, fun _ _ => rfl⟩
theorem rch2.tr {k : Nat} {J K : Nat → Nat → Int32} (h1 : rch2 k I J) (h2 : rch2 k J K) : rch2 k I K := ⟨h1.1.tr h2.1, fun b hb => (h2.2 b hb).trans (h1.2 b hb)⟩
theorem c_push (d : Nat) {k : Nat} {x : Int32} {s : List Int32} (hk : k = 101 ∨ k = 105) (hs : stk k I s) (hl : s.length < 40) : ∃ I', ev_do (d + 1) M_Rule_push [.ref k, .int x] (ev_mk h I L) = ev_rn (ev_mk h I' L) ∧ stk k I' (s ++ [x]) ∧ rch2 k I I' := by
  refine ⟨ev_up (ev_up I (k + 2) s.length x) k 3 (nI (s.length + 1)), ?_, ⟨?_, fun j hj => ?_⟩, ⟨(exc.up (exc.up exc.rf (by simp)) (by simp)), fun b hb => ?_⟩⟩
  · rw [e_Rule_push_0 _ _ hk, hs.1, if_pos (show nI s.length < (40 : Int32) from (q_lt (b := 40) (by omega) (by omega)).mpr hl), q_in (by omega), if_pos (by simpa using hl), q_cl (by omega), show (1 : Int32) = nI 1 from rfl, q_add]
  · rw [u_at]; simp
  · rw [u_c (by omega)]
    by_cases e : j = s.length
    · subst e
      rw [u_at]; simp
    · rw [u_j e, hs.2 j (by simp at hj; omega), List.getD_eq_getElem?_getD, List.getD_eq_getElem?_getD, List.getElem?_append_left (by simp at hj; omega)]
  · rw [u_j hb, u_c (by omega)]
theorem c_pop (d : Nat) {k : Nat} {x : Int32} {s : List Int32} (hk : k = 101 ∨ k = 105) (hs : stk k I (s ++ [x])) (hl : s.length < 40) : ∃ I', ev_do (d + 1) M_Rule_pop [.ref k] (ev_mk h I L) = ev_ri x (ev_mk h I' L) ∧ stk k I' s ∧ rch2 k I I' := by
  have hs1 : I k 3 = nI (s.length + 1) := by rw [hs.1]; simp
  refine ⟨ev_up I k 3 (nI s.length), ?_, ⟨u_at _ _ _ _, fun j hj => ?_⟩, ⟨exc.up exc.rf (by simp), fun b hb => u_j hb⟩⟩
  · rw [e_Rule_pop_0 _ hk, hs1, if_neg (show ¬ nI (s.length + 1) = (0 : Int32) from fun z => absurd ((q_eq (b := 0) (by omega) (by omega)).mp z) (by omega)), show (1 : Int32) = nI 1 from rfl, q_sub (by omega), show s.length + 1 - 1 = s.length by omega, q_in (by omega), if_pos (by simpa using hl), q_cl (by omega), hs.2 s.length (by simp)]
    simp
  · rw [u_c (by omega), hs.2 j (by simp; omega), List.getD_eq_getElem?_getD, List.getD_eq_getElem?_getD, List.getElem?_append_left hj]
end RU
