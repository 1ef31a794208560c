/-! Calls: game. -/
/-- who is to take from a heap wins, for heaps up to n -/
def gT (a b : Nat) : Nat → (Nat → Bool) × (Nat → Bool)
  | 0 => (fun _ => true, fun _ => true)
  | n + 1 => (fun k => if k = n + 1 then (!(gT a b n).2 n || (decide (a ≤ n + 1) && !(gT a b n).2 (n + 1 - a))) else (gT a b n).1 k, fun k => if k = n + 1 then (!(gT a b n).1 n || (decide (b ≤ n + 1) && !(gT a b n).1 (n + 1 - b))) else (gT a b n).2 k)
def oW (a b k : Nat) : Bool := (gT a b k).1 k
def uW (a b k : Nat) : Bool := (gT a b k).2 k
theorem gT_st (a b : Nat) {k : Nat} : ∀ m, (gT a b (k + m)).1 k = oW a b k ∧ (gT a b (k + m)).2 k = uW a b k
  | 0 => ⟨rfl, rfl⟩
  | m + 1 => by
    have ih := gT_st a b (k := k) m
    refine ⟨?_, ?_⟩
    · show (if k = k + m + 1 then _ else (gT a b (k + m)).1 k) = _
      rw [if_neg (by omega)]; exact ih.1
    · show (if k = k + m + 1 then _ else (gT a b (k + m)).2 k) = _
      rw [if_neg (by omega)]; exact ih.2
theorem oW_0 (a b : Nat) : oW a b 0 = true ∧ uW a b 0 = true := ⟨rfl, rfl⟩
theorem oW_s {a b n : Nat} (ha : 1 ≤ a) : oW a b (n + 1) = (!uW a b n || (decide (a ≤ n + 1) && !uW a b (n + 1 - a))) := by
  show (if n + 1 = n + 1 then (!uW a b n || (decide (a ≤ n + 1) && !(gT a b n).2 (n + 1 - a))) else _) = _
  rw [if_pos rfl]
  by_cases e : a ≤ n + 1
  · have := (gT_st a b (k := n + 1 - a) (a - 1)).2
    rw [show n + 1 - a + (a - 1) = n by omega] at this
    rw [this]
  · rw [decide_eq_false e]; rfl
theorem uW_s {a b n : Nat} (hb : 1 ≤ b) : uW a b (n + 1) = (!oW a b n || (decide (b ≤ n + 1) && !oW a b (n + 1 - b))) := by
  show (if n + 1 = n + 1 then (!oW a b n || (decide (b ≤ n + 1) && !(gT a b n).1 (n + 1 - b))) else _) = _
  rw [if_pos rfl]
  by_cases e : b ≤ n + 1
  · have := (gT_st a b (k := n + 1 - b) (b - 1)).1
    rw [show n + 1 - b + (b - 1) = n by omega] at this
    rw [this]
  · rw [decide_eq_false e]; rfl
/-- a take that wins -/
def wT (n g : Nat) (u : Nat → Bool) : Nat := if !u (n - 1) then 1 else if decide (g ≤ n) && !u (n - g) then g else 0
def bgt (x : Int32) : Bool := decide (¬ x < 2) && decide (¬ 9 < x)
theorem bgt_t {x : Int32} (h : bgt x = true) : ∃ a, 2 ≤ a ∧ a ≤ 9 ∧ x = nI a := by
  unfold bgt at h
  rw [Bool.and_eq_true] at h
  have h1 := of_decide_eq_true h.1
  have h2 := of_decide_eq_true h.2
  have h0 : ¬ x < 0 := fun z => h1 (by rw [Int32.lt_iff_toInt_lt] at z ⊢; have : (0 : Int32).toInt = 0 := rfl; have : (2 : Int32).toInt = 2 := rfl; omega)
  obtain ⟨a, ha, rfl⟩ := q_ge h0
  refine ⟨a, ?_, ?_, rfl⟩
  · exact Nat.le_of_not_lt fun z => h1 ((q_lt (b := 2) ha (by omega)).mpr z)
  · exact Nat.le_of_not_lt fun z => h2 ((q_lt (a := 9) (by omega) ha).mpr z)
theorem sm64 : ∀ k, k < 62 → ((lN k).toBitVec.smod 64).toNat = k := by decide +kernel
theorem z_lbit {n k : Nat} (hn : n < 2 ^ 62) (hk : k < 62) : lg_cmp ((lN n >>> ((nI k).toInt64 &&& 63)) &&& 1) 0 = 0 ↔ n.testBit k = false := by
  rw [wb_c k (by omega), pf_shr (sm64 k hk) hn, wb_a1 (by have := Nat.div_le_self n (2 ^ k); omega), cmp0 (by omega), Nat.testBit_eq_decide_div_mod_eq, decide_eq_false_iff_not]
  omega
section OW
variable {h : Bool × Nat × Nat} {d : Nat} {I J : Nat → Nat → Int32} {L : Nat → Nat → Int64} {A : aP}
def gB (w : Nat → Bool) (k : Nat) : Bool := decide (2 ≤ k) && w k
theorem c_wT (d : Nat) {n g : Nat} {u : Nat → Bool} {m : Nat} (hn : 1 ≤ n) (hn61 : n ≤ 60) (hg2 : 2 ≤ g) (hg9 : g ≤ 9) (hu0 : u 0 = true) (hu1 : u 1 = false) (hm : ∀ k, 1 ≤ k → k < n → m.testBit k = u k) (hm2 : m < 2 ^ 62) : ev_do (d + 1) M_SL_winningTake [.int (nI n), .int (nI g), .long (lN m)] (ev_mk h J L) = ev_ri (nI (wT n g u)) (ev_mk h J L) := by
  have e19 : ¬ (!u (n - 1)) = true → ev_at d M_SL_winningTake 19 [.int (nI n), .int (nI g), .long (lN m), .float 0] [] (ev_mk h J L) = ev_ri (nI (wT n g u)) (ev_mk h J L) := by
    intro hz
    rw [e_SL_winningTake_19]
    unfold wT
    rw [if_neg hz]
    by_cases c1 : g < n
    · rw [if_pos ((q_lt (by omega) (by omega)).mpr c1), q_sub (by omega)]
      by_cases c2 : m.testBit (n - g) = false
      · rw [if_pos ((z_lbit hm2 (by omega)).mpr c2), if_pos (by rw [← hm (n - g) (by omega) (by omega), c2, decide_eq_true (by omega)]; rfl)]
      · rw [if_neg (fun z => c2 ((z_lbit hm2 (by omega)).mp z)), if_neg (by rw [← hm (n - g) (by omega) (by omega)]; cases hb : m.testBit (n - g) with | true => simp | false => exact absurd hb c2)]
        rfl
    · rw [if_neg (fun z => c1 ((q_lt (by omega) (by omega)).mp z))]
      by_cases c3 : g = n
      · rw [if_neg (by rw [c3, Nat.sub_self, hu0]; simp)]; rfl
      · rw [if_neg (by rw [decide_eq_false (by omega)]; simp)]; rfl
  rw [e_SL_winningTake_0]
  by_cases c0 : 1 < n
  · rw [if_pos (show (1 : Int32) < nI n from (q_lt (a := 1) (by omega) (by omega)).mpr c0), show nI n - 1 = nI (n - 1) from q_sub (b := 1) (by omega)]
    by_cases c2 : m.testBit (n - 1) = false
    · rw [if_pos ((z_lbit hm2 (by omega)).mpr c2)]
      unfold wT
      rw [if_pos (by rw [← hm (n - 1) (by omega) (by omega), c2]; rfl)]
      rfl
    · rw [if_neg (fun z => c2 ((z_lbit hm2 (by omega)).mp z))]
      exact e19 (by rw [← hm (n - 1) (by omega) (by omega)]; cases hb : m.testBit (n - 1) with | true => simp | false => exact absurd hb c2)
  · have en : n = 1 := by omega
    rw [if_neg (show ¬ (1 : Int32) < nI n from fun z => c0 ((q_lt (a := 1) (by omega) (by omega)).mp z))]
    exact e19 (by rw [en, Nat.sub_self, hu0]; simp)
theorem wT_pos {n g : Nat} {u : Nat → Bool} (hg : 2 ≤ g) : 0 < wT n g u ↔ (!u (n - 1) || (decide (g ≤ n) && !u (n - g))) = true := by
  unfold wT
  cases !u (n - 1) with
  | true => simp
  | false =>
    cases decide (g ≤ n) && !u (n - g) with
    | true => simp; omega
    | false => simp
theorem wT_le {n g : Nat} {u : Nat → Bool} (hg : 2 ≤ g) : wT n g u ≤ g := by
  unfold wT
  split
  · omega
  · split <;> omega
theorem oW_w {a b j : Nat} (ha : 2 ≤ a) : oW a b (j + 1) = decide (0 < wT (j + 1) a (uW a b)) := by
  have := wT_pos (n := j + 1) (u := uW a b) ha
  rw [show j + 1 - 1 = j by omega] at this
  rw [oW_s (by omega), Bool.eq_iff_iff, decide_eq_true_iff, this]
theorem uW_w {a b j : Nat} (hb : 2 ≤ b) : uW a b (j + 1) = decide (0 < wT (j + 1) b (oW a b)) := by
  have := wT_pos (n := j + 1) (u := oW a b) hb
  rw [show j + 1 - 1 = j by omega] at this
  rw [uW_s (by omega), Bool.eq_iff_iff, decide_eq_true_iff, this]
theorem op_game {x y z : Int32} (hi : inv I L) : okI h d M_SL_game M_Mo_game [.int x, .int y, .int z] I L := by
  refine ok_q (fun A hw => ?_) hi
  have two : ∀ (w : Int32) {α : Type} (p q : α), (if w < 2 then p else if 9 < w then p else q) = if bgt w = true then q else p := by
    intro w α p q
    unfold bgt
    by_cases c1 : w < 2
    · rw [if_pos c1, if_neg (by rw [decide_eq_false (fun z => z c1)]; simp)]
    · rw [if_neg c1]
      by_cases c2 : 9 < w
      · rw [if_pos c2, if_neg (by rw [decide_eq_false (p := ¬ 9 < w) (fun z => z c2)]; simp)]
      · rw [if_neg c2, if_pos (by rw [decide_eq_true c1, decide_eq_true c2]; rfl)]
  have rC : ∀ (I : Nat → Nat → Int32) (L : Nat → Nat → Int64), ev_do (d + 100) M_SL_game (.ref 0 :: [.int x, .int y, .int z]) (ev_mk h I L) = if blw x 61 && (bgt y && bgt z) then (if x = 0 then ev_ri (-2) (ev_mk h I L) else ev_at (d + 99) M_SL_game 50 [.float 0, .int x, .int y, .int z, .long 0, .float 0, .long 0, .float 0, .int 2, .float 0, .float 0, .float 0, .float 0] [] (ev_mk h I L)) else ev_ri (-1) (ev_mk h I L) := by
    intro I L
    rw [e_SL_game_0, two z, two y, show (60 : Int32) = nI 60 from rfl, r_two (by omega)]
    cases blw x (60 + 1) <;> cases bgt y <;> cases bgt z <;> rfl
  have rM : ∀ (I : Nat → Nat → Int32) (L : Nat → Nat → Int64), ev_do (d + 100) M_Mo_game (.ref 139 :: [.int x, .int y, .int z]) (ev_mk h I L) = if blw x 61 && (bgt y && bgt z) then (if x = 0 then ev_ri (-2) (ev_mk h (ev_up I 139 0 0) L) else ev_at (d + 99) M_Mo_game 71 [.ref 139, .int x, .int y, .int z, .int 1] [] (ev_mk h (ev_up (ev_up (ev_up I 139 0 0) 168 0 1) 169 0 1) L)) else ev_ri (-1) (ev_mk h (ev_up I 139 0 0) L) := by
    intro I L
    have e29 : ∀ w : Int32, ev_do (d + 99) M_Mo_in [.long w.toInt64, .long 2, .long 9] (ev_mk h (ev_up I 139 0 0) L) = ev_ri (fl (bgt w)) (ev_mk h (ev_up I 139 0 0) L) := by
      intro w
      have e := c_Mo_in (d + 98) w 2 9 h (ev_up I 139 0 0) L
      rw [show (2 : Int32).toInt64 = 2 by decide, show (9 : Int32).toInt64 = 9 by decide] at e
      rw [e]
      unfold bgt
      by_cases c1 : w < 2
      · rw [if_neg (fun z => z.1 c1), decide_eq_false (fun z => z c1)]; rfl
      · by_cases c2 : 9 < w
        · rw [if_neg (fun z => z.2 c2), decide_eq_true c1, decide_eq_false (fun z => z c2)]; rfl
        · rw [if_pos ⟨c1, c2⟩, decide_eq_true c1, decide_eq_true c2]; rfl
    rw [e_Mo_game_0, c_in60, k_I, k_1, k_2, k_3]
    cases blw x 61 with
    | false => rw [if_pos (show fl false = 0 from rfl)]; rfl
    | true =>
      rw [if_neg (show ¬ fl true = 0 by decide), e29, k_I, k_1, k_2, k_3]
      cases bgt y with
      | false => rw [if_pos (show fl false = 0 from rfl)]; rfl
      | true =>
        rw [if_neg (show ¬ fl true = 0 by decide), e29, k_I, k_1, k_2, k_3]
        cases bgt z with
        | false => rw [if_pos (show fl false = 0 from rfl)]; rfl
        | true => rw [if_neg (show ¬ fl true = 0 by decide)]; rfl
  cases hc : blw x 61 && (bgt y && bgt z) with
  | false =>
    rw [hc] at rC rM
    exact no_q (v := -1) hw (fun I L hi => (rC I L).trans (if_neg (by decide))) (fun I L hi => (rM I L).trans (if_neg (by decide)))
  | true =>
    rw [hc] at rC rM
    rw [Bool.and_eq_true, Bool.and_eq_true] at hc
    obtain ⟨c1, c2, c3⟩ := hc
    obtain ⟨n, hn, rfl⟩ := (blw_iff (by omega)).mp c1
    obtain ⟨a, ha2, ha9, rfl⟩ := bgt_t c2
    obtain ⟨b, hb2, hb9, rfl⟩ := bgt_t c3
    by_cases hn0 : n = 0
    · subst hn0
      exact no_q (v := -2) hw (fun I L hi => (rC I L).trans ((if_pos rfl).trans (if_pos rfl))) (fun I L hi => (rM I L).trans ((if_pos rfl).trans (if_pos rfl)))
    · have hx0 : ¬ nI n = 0 := fun z => hn0 ((q_eq (b := 0) (by omega) (by omega)).mp z)
      have o1 : oW a b 1 = false := by rw [oW_s (by omega), (oW_0 a b).2, decide_eq_false (by omega)]; rfl
      have u1 : uW a b 1 = false := by rw [uW_s (by omega), (oW_0 a b).1, decide_eq_false (by omega)]; rfl
      have hwt := wT_le (n := n) (u := uW a b) ha2
      refine ⟨nI (wT n a (uW a b)), aRw A, hw.2.1, qC_no (fun I L hi => ⟨I, ?_, frC.rf, rfl⟩), qM_no (fun I L hi => ?_)⟩
      · have mb : ∀ (w : Nat → Bool) (i k : Nat), w 1 = false → 1 ≤ k → k < i → (msk (gB w) i).testBit k = w k := by
          intro w i k h1 hk hki
          rw [msk_bit, decide_eq_true hki, Bool.true_and]
          unfold gB
          by_cases e : 2 ≤ k
          · rw [decide_eq_true e, Bool.true_and]
          · rw [show k = 1 by omega, h1]; rfl
        have ml : ∀ (w : Nat → Bool) (i : Nat), i ≤ 61 → msk (gB w) i < 2 ^ 62 := fun w i hi' => Nat.lt_of_lt_of_le (msk_lt _ i) (Nat.pow_le_pow_right (by decide) (by omega))
        have lp : ∀ i, i ≤ n - 2 → ∀ q : Unit, True → ev_at (d + 99) M_SL_game 50 [.float 0, .int (nI n), .int (nI a), .int (nI b), .long (lN (msk (gB (oW a b)) (2 + i))), .float 0, .long (lN (msk (gB (uW a b)) (2 + i))), .float 0, .int (nI (2 + i)), .float 0, .float 0, .float 0, .float 0] [] (ev_mk h I L) = ev_ri (nI (wT n a (uW a b))) (ev_mk h I L) := by
          refine lpE (F := fun i (_ : Unit) => ev_at (d + 99) M_SL_game 50 [.float 0, .int (nI n), .int (nI a), .int (nI b), .long (lN (msk (gB (oW a b)) (2 + i))), .float 0, .long (lN (msk (gB (uW a b)) (2 + i))), .float 0, .int (nI (2 + i)), .float 0, .float 0, .float 0, .float 0] [] (ev_mk h I L)) (fun _ _ => True) (fun o => o = ev_ri (nI (wT n a (uW a b))) (ev_mk h I L)) (n - 2) ?_ ?_
          · intro i _ hi' _
            refine Or.inl ⟨(), ?_, trivial⟩
            obtain ⟨k, hk⟩ : ∃ k, k = 2 + i := ⟨_, rfl⟩
            rw [show 2 + (i + 1) = k + 1 by omega, ← hk]
            have w1 := c_wT (h := h) (J := I) (L := L) (n := k) (d + 98) (by omega) (by omega) ha2 ha9 (oW_0 a b).2 u1 (fun j h1 h2 => mb (uW a b) k j u1 h1 h2) (ml (uW a b) k (by omega))
            have w2 := c_wT (h := h) (J := I) (L := L) (n := k) (d + 98) (by omega) (by omega) hb2 hb9 (oW_0 a b).1 o1 (fun j h1 h2 => mb (oW a b) k j o1 h1 h2) (ml (oW a b) k (by omega))
            have hwo : oW a b k = decide (0 < wT k a (uW a b)) := by
              have := oW_w (b := b) (j := k - 1) ha2
              rwa [show k - 1 + 1 = k by omega] at this
            have hwu : uW a b k = decide (0 < wT k b (oW a b)) := by
              have := uW_w (a := a) (j := k - 1) hb2
              rwa [show k - 1 + 1 = k by omega] at this
            have hl1 := wT_le (n := k) (u := uW a b) ha2
            have hl2 := wT_le (n := k) (u := oW a b) hb2
            have hsh : ∀ (w : Nat → Bool) (z : Bool), w k = z → lN (msk (gB w) k) ||| ((if z then (1 : Int64) else 0) <<< ((nI k).toInt64 &&& 63)) = lN (msk (gB w) (k + 1)) := by
              intro w z hz
              have hpk : 2 ^ k < 2 ^ 62 := Nat.pow_lt_pow_right (by decide) (by omega)
              rw [show (if z then (1 : Int64) else 0) = lN (if z then 1 else 0) by cases z <;> rfl, wb_shl _ (by omega), wb_or (by have := ml w k (by omega); omega) (by cases z <;> simp <;> omega), msk]
              congr 2
              unfold gB
              rw [decide_eq_true (by omega), Bool.true_and, hz]
              cases z <;> simp
            have e90 : ∀ z1 z2 : Bool, oW a b k = z1 → uW a b k = z2 → ev_at (d + 99) M_SL_game 90 [.float 0, .int (nI n), .int (nI a), .int (nI b), .long (lN (msk (gB (oW a b)) k)), .float 0, .long (lN (msk (gB (uW a b)) k)), .float 0, .int (nI k), .long (if z1 then 1 else 0), .float 0, .float 0, .float 0] [.long (if z2 then 1 else 0)] (ev_mk h I L) = ev_at (d + 99) M_SL_game 50 [.float 0, .int (nI n), .int (nI a), .int (nI b), .long (lN (msk (gB (oW a b)) (k + 1))), .float 0, .long (lN (msk (gB (uW a b)) (k + 1))), .float 0, .int (nI (k + 1)), .float 0, .float 0, .float 0, .float 0] [] (ev_mk h I L) := by
              intro z1 z2 h1 h2
              rw [e_SL_game_90, hsh _ z1 h1, hsh _ z2 h2, show nI k + 1 = nI (k + 1) from q_add k 1]
            have e72 : ∀ z1 : Bool, oW a b k = z1 → ev_at (d + 99) M_SL_game 72 [.float 0, .int (nI n), .int (nI a), .int (nI b), .long (lN (msk (gB (oW a b)) k)), .float 0, .long (lN (msk (gB (uW a b)) k)), .float 0, .int (nI k), .float 0, .float 0, .float 0, .float 0] [.long (if z1 then 1 else 0)] (ev_mk h I L) = ev_at (d + 99) M_SL_game 50 [.float 0, .int (nI n), .int (nI a), .int (nI b), .long (lN (msk (gB (oW a b)) (k + 1))), .float 0, .long (lN (msk (gB (uW a b)) (k + 1))), .float 0, .int (nI (k + 1)), .float 0, .float 0, .float 0, .float 0] [] (ev_mk h I L) := by
              intro z1 h1
              rw [e_SL_game_72, w2, k_I, k_1, k_2, k_3]
              by_cases e : 0 < wT k b (oW a b)
              · rw [if_pos (show (0 : Int32) < nI _ from (q_lt (a := 0) (by omega) (by omega)).mpr e)]
                exact e90 z1 true h1 (by rw [hwu, decide_eq_true e])
              · rw [if_neg (show ¬ (0 : Int32) < nI _ from fun z => e ((q_lt (a := 0) (by omega) (by omega)).mp z))]
                exact e90 z1 false h1 (by rw [hwu, decide_eq_false e])
            rw [e_SL_game_50, if_pos ((q_lt (by omega) (by omega)).mpr (by omega)), w1, k_I, k_1, k_2, k_3]
            by_cases e : 0 < wT k a (uW a b)
            · rw [if_pos (show (0 : Int32) < nI _ from (q_lt (a := 0) (by omega) (by omega)).mpr e)]
              exact e72 true (by rw [hwo, decide_eq_true e])
            · rw [if_neg (show ¬ (0 : Int32) < nI _ from fun z => e ((q_lt (a := 0) (by omega) (by omega)).mp z))]
              exact e72 false (by rw [hwo, decide_eq_false e])
          · intro _ _
            have w1 := c_wT (h := h) (J := I) (L := L) (n := n) (d + 98) (by omega) (by omega) ha2 ha9 (oW_0 a b).2 u1 (fun j h1 h2 => mb (uW a b) (2 + (n - 2)) j u1 h1 (by omega)) (ml (uW a b) (2 + (n - 2)) (by omega))
            rw [e_SL_game_50, if_neg (fun z => absurd ((q_lt (by omega) (by omega)).mp z) (by omega)), w1, k_I, k_1, k_2, k_3]
        rw [rC, if_pos rfl, if_neg hx0]
        have m0 : ∀ w : Nat → Bool, msk (gB w) 2 = 0 := fun w => by simp [msk, gB]
        have := lp 0 (by omega) () trivial
        rw [show 2 + 0 = 2 from rfl, m0, m0] at this
        exact this
      · have lp : ∃ K, ev_at (d + 99) M_Mo_game 71 [.ref 139, .int (nI n), .int (nI a), .int (nI b), .int (nI (0 + 1))] [] (ev_mk h (ev_up (ev_up (ev_up I 139 0 0) 168 0 1) 169 0 1) L) = ev_at (d + 99) M_Mo_game 71 [.ref 139, .int (nI n), .int (nI a), .int (nI b), .int (nI (n + 1))] [] (ev_mk h K L) ∧ (frM I K ∧ K 139 1 = I 139 1) ∧ ∀ k, k ≤ n → K 168 k = fl (oW a b k) ∧ K 169 k = fl (uW a b k) := by
          refine lpX (F := fun i J => ev_at (d + 99) M_Mo_game 71 [.ref 139, .int (nI n), .int (nI a), .int (nI b), .int (nI (i + 1))] [] (ev_mk h J L)) (fun i J => (frM I J ∧ J 139 1 = I 139 1) ∧ ∀ k, k ≤ i → J 168 k = fl (oW a b k) ∧ J 169 k = fl (uW a b k)) n ?_ (fun J p => ⟨J, rfl, p⟩) 0 (by omega) _ ⟨⟨(frM.t0.up (by unfold scM; omega) (by omega)).up (by unfold scM; omega) (by omega), by rw [u_c (by omega), u_c (by omega), u_j (by omega)]⟩, fun k hk => ?_⟩
          · intro i J hi' ⟨p1, p2⟩
            obtain ⟨J1, hJ1⟩ : ∃ K, K = ev_up J 168 (i + 1) (fl (oW a b (i + 1))) := ⟨_, rfl⟩
            obtain ⟨J2, hJ2⟩ : ∃ K, K = ev_up J1 169 (i + 1) (fl (uW a b (i + 1))) := ⟨_, rfl⟩
            have nar : ∀ q : Bool, vp_nar .boolean (fl q) = fl q := fun q => by cases q <;> rfl
            have e118 : ev_at (d + 99) M_Mo_game 118 [.ref 139, .int (nI n), .int (nI a), .int (nI b), .int (nI (i + 1))] [.int (fl (oW a b (i + 1))), .int (nI (i + 1)), .ref 168] (ev_mk h J L) = ev_at (d + 99) M_Mo_game 71 [.ref 139, .int (nI n), .int (nI a), .int (nI b), .int (nI (i + 1 + 1))] [] (ev_mk h J2 L) := by
              rw [e_Mo_game_118, show nI (i + 1) - 1 = nI i from q_sub (a := i + 1) (b := 1) (by omega), show ev_in (nI (i + 1)) 61 = true from z_in (by omega) (by omega), show ev_in (nI i) 61 = true from z_in (by omega) (by omega)]
              simp only [↓reduceIte]
              rw [q_cl (a := i + 1) (by omega), q_cl (a := i) (by omega), nar, ← hJ1, show nI (i + 1) + 1 = nI (i + 1 + 1) from q_add _ 1, show J1 168 i = fl (oW a b i) by rw [hJ1, u_j (by omega)]; exact (p2 i (Nat.le_refl _)).1]
              have fin : ∀ q : Bool, uW a b (i + 1) = q → ev_up J1 169 (i + 1) (fl q) = J2 := fun q hq => by rw [hJ2, hq]
              cases ho : oW a b i with
              | false =>
                rw [if_pos (show fl false = 0 from rfl)]
                exact congrArg (fun K => ev_at (d + 99) M_Mo_game 71 [.ref 139, .int (nI n), .int (nI a), .int (nI b), .int (nI (i + 1 + 1))] [] (ev_mk h K L)) (fin true (by rw [uW_s (by omega), ho]; rfl))
              | true =>
                rw [if_neg (show ¬ fl true = 0 by decide)]
                by_cases cb : b ≤ i + 1
                · rw [if_neg (fun z => absurd ((q_lt (by omega) (by omega)).mp z) (by omega)), q_sub cb, show ev_in (nI (i + 1 - b)) 61 = true from z_in (by omega) (by omega), q_cl (by omega), show J1 168 (i + 1 - b) = fl (oW a b (i + 1 - b)) by rw [hJ1, u_j (by omega)]; exact (p2 (i + 1 - b) (by omega)).1]
                  simp only [↓reduceIte]
                  cases hob : oW a b (i + 1 - b) with
                  | false =>
                    rw [if_pos (show fl false = 0 from rfl)]
                    exact congrArg (fun K => ev_at (d + 99) M_Mo_game 71 [.ref 139, .int (nI n), .int (nI a), .int (nI b), .int (nI (i + 1 + 1))] [] (ev_mk h K L)) (fin true (by rw [uW_s (by omega), ho, hob, decide_eq_true cb]; rfl))
                  | true =>
                    rw [if_neg (show ¬ fl true = 0 by decide)]
                    exact congrArg (fun K => ev_at (d + 99) M_Mo_game 71 [.ref 139, .int (nI n), .int (nI a), .int (nI b), .int (nI (i + 1 + 1))] [] (ev_mk h K L)) (fin false (by rw [uW_s (by omega), ho, hob, decide_eq_true cb]; rfl))
                · rw [if_pos ((q_lt (by omega) (by omega)).mpr (by omega))]
                  exact congrArg (fun K => ev_at (d + 99) M_Mo_game 71 [.ref 139, .int (nI n), .int (nI a), .int (nI b), .int (nI (i + 1 + 1))] [] (ev_mk h K L)) (fin false (by rw [uW_s (by omega), ho, decide_eq_false cb]; rfl))
            refine Or.inl ⟨J2, ?_, ⟨by rw [hJ2, hJ1]; exact (p1.1.up (by unfold scM; omega) (by omega)).up (by unfold scM; omega) (by omega), by rw [hJ2, u_c (by omega), hJ1, u_c (by omega)]; exact p1.2⟩, fun k hk => ?_⟩
            · have pick : ∀ q : Bool, oW a b (i + 1) = q → ev_at (d + 99) M_Mo_game 118 [.ref 139, .int (nI n), .int (nI a), .int (nI b), .int (nI (i + 1))] [.int (fl q), .int (nI (i + 1)), .ref 168] (ev_mk h J L) = ev_at (d + 99) M_Mo_game 71 [.ref 139, .int (nI n), .int (nI a), .int (nI b), .int (nI (i + 1 + 1))] [] (ev_mk h J2 L) := fun q hq => by rw [← hq]; exact e118
              rw [e_Mo_game_71, if_neg (fun z => absurd ((q_lt (by omega) (by omega)).mp z) (by omega)), show nI (i + 1) - 1 = nI i from q_sub (a := i + 1) (b := 1) (by omega), show ev_in (nI i) 61 = true from z_in (by omega) (by omega)]
              simp only [↓reduceIte]
              rw [q_cl (a := i) (by omega), (p2 i (Nat.le_refl _)).2]
              cases hu : uW a b i with
              | false =>
                rw [if_pos (show fl false = 0 from rfl)]
                exact pick true (by rw [oW_s (by omega), hu]; rfl)
              | true =>
                rw [if_neg (show ¬ fl true = 0 by decide)]
                by_cases ca : a ≤ i + 1
                · rw [if_neg (fun z => absurd ((q_lt (by omega) (by omega)).mp z) (by omega)), q_sub ca, show ev_in (nI (i + 1 - a)) 61 = true from z_in (by omega) (by omega), q_cl (by omega), (p2 (i + 1 - a) (by omega)).2]
                  simp only [↓reduceIte]
                  cases hua : uW a b (i + 1 - a) with
                  | false =>
                    rw [if_pos (show fl false = 0 from rfl)]
                    exact pick true (by rw [oW_s (by omega), hu, hua, decide_eq_true ca]; rfl)
                  | true =>
                    rw [if_neg (show ¬ fl true = 0 by decide)]
                    exact pick false (by rw [oW_s (by omega), hu, hua, decide_eq_true ca]; rfl)
                · rw [if_pos ((q_lt (by omega) (by omega)).mpr (by omega))]
                  exact pick false (by rw [oW_s (by omega), hu, decide_eq_false ca]; rfl)
            · by_cases e : k = i + 1
              · subst e
                exact ⟨by rw [hJ2, u_c (by omega), hJ1, u_at], by rw [hJ2, u_at]⟩
              · have := p2 k (by omega)
                exact ⟨by rw [hJ2, u_c (by omega), hJ1, u_j e]; exact this.1, by rw [hJ2, u_j e, hJ1, u_c (by omega)]; exact this.2⟩
          · have : k = 0 := by omega
            subst this
            exact ⟨by rw [u_c (by omega), u_at]; rfl, by rw [u_at]; rfl⟩
        obtain ⟨K, e1, ⟨f1, k1⟩, t1⟩ := lp
        refine ⟨K, ?_, f1, k1⟩
        rw [rM, if_pos rfl, if_neg hx0]
        refine Eq.trans e1 ?_
        rw [e_Mo_game_71, if_pos ((q_lt (by omega) (by omega)).mpr (by omega)), show nI n - 1 = nI (n - 1) from q_sub (b := 1) (by omega), q_in (by omega), if_pos (by simp <;> omega), q_cl (by omega), (t1 (n - 1) (by omega)).2]
        unfold wT
        cases hu : uW a b (n - 1) with
        | false => rw [if_pos (show fl false = 0 from rfl), if_pos (c := (!false) = true) rfl]; rfl
        | true =>
          rw [if_neg (show ¬ fl true = 0 by decide), if_neg (c := (!true) = true) (by decide)]
          by_cases ca : a ≤ n
          · rw [if_neg (fun z => absurd ((q_lt (by omega) (by omega)).mp z) (by omega)), q_sub ca, q_in (by omega), if_pos (by simp <;> omega), q_cl (by omega), (t1 (n - a) (by omega)).2, decide_eq_true ca, Bool.true_and]
            cases uW a b (n - a) with
            | false => rw [if_pos (show fl false = 0 from rfl), if_pos (by decide)]
            | true => rw [if_neg (show ¬ fl true = 0 by decide), if_neg (by decide)]; rfl
          · rw [if_pos ((q_lt (by omega) (by omega)).mpr (by omega)), decide_eq_false ca, Bool.false_and, if_neg (by decide)]; rfl
end OW
