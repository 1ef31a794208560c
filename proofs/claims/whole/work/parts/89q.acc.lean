/-! A rule read by the class: a sign. -/
section QA
variable {h : Bool × Nat × Nat} {K : Nat → Nat → Int32} {L : Nat → Nat → Int64}
abbrev aQ := List Nat × List Nat × Nat × (Nat → Bool) × Nat × Bool
def tkS (c : Nat) : Nat := if c = 256 then 3000 else if c = 60 then 2000 else if c = 62 then 2001 else if c = 61 then 2002 else if c = 43 then 2003 else if c = 45 then 2004 else if c = 42 then 2005 else 2006
theorem tkS_is : ∀ c, c < 257 → 1 ≤ rkC c → cT (tkS c) = -(nI c) := by decide +kernel
def tW (w : Nat) (S : List Nat) : List Nat := S.takeWhile (fun c => decide (w ≤ rkC c))
def dW (w : Nat) (S : List Nat) : List Nat := S.dropWhile (fun c => decide (w ≤ rkC c))
theorem tW_dW (w : Nat) (S : List Nat) : tW w S ++ dW w S = S := List.takeWhile_append_dropWhile
theorem tW_in {w : Nat} {S : List Nat} {c : Nat} : c ∈ tW w S → w ≤ rkC c ∧ c ∈ S := by
  intro hc
  induction S with
  | nil => cases hc
  | cons a S ih =>
    unfold tW at hc ih
    rw [List.takeWhile_cons] at hc
    by_cases z : w ≤ rkC a
    · rw [decide_eq_true z] at hc
      rcases List.mem_cons.mp hc with e | e
      · rw [e]; exact ⟨z, List.mem_cons_self⟩
      · exact ⟨(ih e).1, List.mem_cons_of_mem _ (ih e).2⟩
    · rw [decide_eq_false z] at hc; cases hc
theorem dW_hd {w : Nat} {S : List Nat} {c : Nat} : (dW w S).head? = some c → rkC c < w := by
  intro hc
  induction S with
  | nil => cases hc
  | cons a S ih =>
    unfold dW at hc ih
    rw [List.dropWhile_cons] at hc
    by_cases z : w ≤ rkC a
    · rw [decide_eq_true z] at hc; exact ih hc
    · rw [decide_eq_false z] at hc
      have : a = c := by simpa using hc
      rw [← this]; omega
theorem dW_in {w : Nat} {S : List Nat} {c : Nat} (hc : c ∈ dW w S) : c ∈ S := by
  rw [← tW_dW w S]; exact List.mem_append_right _ hc
theorem tdl (w : Nat) (S : List Nat) : (tW w S).length + (dW w S).length = S.length := by
  rw [← List.length_append, tW_dW]
/-- one sign -/
def ac (s : aQ) (c : Nat) : Option aQ :=
  if isDg c = true then
    (if s.2.2.2.2.2 = true then some (s.1 ++ [c - 48], s.2.1, s.2.2.1, s.2.2.2.1, 1, false)
    else if s.2.2.2.2.1 = 0 ∨ s.2.2.2.2.1 = 3 then none
    else some (s.1.dropLast ++ [10 * s.1.getLastD 0 + (c - 48)], s.2.1, s.2.2.1, s.2.2.2.1, s.2.2.2.2.1 + 1, false))
  else if s.2.2.2.2.2 = false then
    (if c = 41 then (if s.2.2.1 = 0 then none else some (s.1 ++ (tW 1 s.2.1).map tkS, (dW 1 s.2.1).tail, s.2.2.1 - 1, s.2.2.2.1, 0, false))
    else if rkC c = 0 then none
    else if rkC c = 1 ∧ s.2.2.2.1 s.2.2.1 = true then none
    else some (s.1 ++ (tW (rkC c) s.2.1).map tkS, c :: dW (rkC c) s.2.1, s.2.2.1, (fun i => if i = s.2.2.1 then (s.2.2.2.1 i || decide (rkC c = 1)) else s.2.2.2.1 i), 0, true))
  else if c = 45 then some (s.1, 256 :: s.2.1, s.2.2.1, s.2.2.2.1, 0, true)
  else if c = 40 then (if s.2.2.1 = 4 then none else some (s.1, 40 :: s.2.1, s.2.2.1 + 1, (fun i => if i = s.2.2.1 + 1 then false else s.2.2.2.1 i), 0, true))
  else match ixO str0 c with
    | none => none
    | some k => some (s.1 ++ [1000 + k], s.2.1, s.2.2.1, s.2.2.2.1, 0, false)
def rS (K : Nat → Nat → Int32) (s : aQ) : Prop := (cdC K (s.1.map cT) ∧ wtC K s.2.1 ∧ (∀ c, c ∈ s.2.1 → c < 257)) ∧ (K 105 5 = nI s.2.2.1 ∧ s.2.2.1 ≤ 4 ∧ ∀ i, i ≤ s.2.2.1 → K 108 i = fl (s.2.2.2.1 i)) ∧ K 105 6 = nI s.2.2.2.2.1 ∧ s.2.2.2.2.1 ≤ 3 ∧ K 105 7 = fl s.2.2.2.2.2 ∧ (s.2.2.2.2.1 ≠ 0 → s.1 ≠ [] ∧ s.1.getLastD 0 < 10 ^ s.2.2.2.2.1)
theorem c_md (d : Nat) {w : Nat} (h1 : 1 ≤ w) (hw : w < 5) {C S : List Nat} (hC : cdC K (C.map cT)) (hS : wtC K S) (h2 : ∀ c, c ∈ S → c < 257) (hl : C.length + S.length ≤ 40) : ∃ K', ev_do (d + 2) M_Rule_moveDownTo [.ref 105, .int (nI w)] (ev_mk h K L) = ev_rn (ev_mk h K' L) ∧ cdC K' ((C ++ (tW w S).map tkS).map cT) ∧ wtC K' (dW w S) ∧ fxC K K' := by
  have hle := tdl w S
  obtain ⟨K1, e1, c1, s1, f1⟩ := c_moveDown (h := h) (L := L) d hw (S := dW w S) (fun c hc => ⟨dW_hd hc, h2 c (dW_in (List.mem_of_mem_head? hc))⟩) (tW w S) (C.map cT) K (fun c hc => ⟨(tW_in hc).1, h2 c (tW_in hc).2⟩) hC (by rw [tW_dW]; exact hS) (by omega) (by rw [List.length_map]; omega)
  refine ⟨K1, ?_, ?_, s1, f1⟩
  · have h3 : K 105 3 = nI ((tW w S).length + (dW w S).length) := by rw [hle, hS.1]; simp
    rw [e_Rule_moveDownTo_0, h3, e1]
  · have : (C ++ (tW w S).map tkS).map cT = C.map cT ++ (tW w S).map (fun c => -(nI c)) := by
      rw [List.map_append, List.map_map]
      congr 1
      refine List.map_congr_left (fun c hc => ?_)
      have := tW_in hc
      exact tkS_is c (h2 c this.2) (by omega)
    rw [this]; exact c1
theorem cT_lo {v : Nat} (hv : v < 1000) : cT v = nI v := if_pos hv
theorem dg_lo {c : Nat} (hc : isDg c = true) : 48 ≤ c ∧ c ≤ 57 := by
  unfold isDg at hc
  rw [Bool.and_eq_true, decide_eq_true_iff, decide_eq_true_iff] at hc
  exact hc
def aOK (K K' : Nat → Nat → Int32) (s : aQ) (o : Option aQ) : Prop := exc [105, 106, 107, 108] K K' ∧ ∀ s', o = some s' → rS K' s' ∧ s'.1.length + s'.2.1.length ≤ s.1.length + s.2.1.length + 1
theorem c_accDigit (d : Nat) {s : aQ} {c : Nat} (hR : rS K s) (hl : s.1.length + s.2.1.length < 40) (hc : isDg c = true) : ∃ K', ev_do (d + 2) M_Rule_acceptsDigit [.ref 105, .int (nI (c - 48))] (ev_mk h K L) = ev_ri (fl (ac s c).isSome) (ev_mk h K' L) ∧ aOK K K' s (ac s c) := by
  obtain ⟨C, S, dep, cm, dg, wt⟩ := s
  obtain ⟨⟨hC, hS, h2⟩, ⟨h5, hd, h8⟩, h6, hg, h7, hn⟩ := hR
  have hcc := dg_lo hc
  dsimp only at hC hS h2 h5 hd h8 h6 hg h7 hn hl
  rw [e_Rule_acceptsDigit_0, h7]
  cases wt with
  | true =>
    have ha : ac (C, S, dep, cm, dg, true) c = some (C ++ [c - 48], S, dep, cm, 1, false) := by
      unfold ac; rw [if_pos hc]; exact if_pos rfl
    obtain ⟨K1, e1, c1, x1, n1⟩ := c_emit (h := h) (L := L) (x := nI (c - 48)) (d := d) hC (by rw [List.length_map]; omega)
    refine ⟨ev_up (ev_up K1 105 6 1) 105 7 0, ?_, ((x1.mono (by simp)).up (by simp)).up (by simp), ?_⟩
    · rw [ha, if_neg (show ¬ fl true = 0 by decide), e1, k_V, k_1, k_2, k_3]; rfl
    · intro s' hs'
      rw [ha] at hs'
      cases hs'
      refine ⟨⟨⟨?_, ?_, h2⟩, ⟨?_, hd, fun i hi => ?_⟩, ?_, (by show 1 ≤ 3; omega), ?_, fun _ => ⟨by simp, ?_⟩⟩, ?_⟩
      · show cdC _ ((C ++ [c - 48]).map cT)
        rw [List.map_append, show [c - 48].map cT = [nI (c - 48)] by simp [cT_lo (show c - 48 < 1000 by omega)]]
        exact c1.ex ((u_j (by omega)).trans (u_j (by omega))) ((u_cf (by omega)).trans (u_cf (by omega)))
      · exact hS.ex (by rw [u_j (by omega), u_j (by omega), n1 3 (by omega)]) (by rw [u_cf (by omega), u_cf (by omega), x1 107 (by simp)])
      · rw [u_j (by omega), u_j (by omega), n1 5 (by omega)]; exact h5
      · rw [u_c (by omega), u_c (by omega), x1 108 (by simp)]; exact h8 i hi
      · rw [u_j (by omega), u_at]; rfl
      · rw [u_at]; rfl
      · show (C ++ [c - 48]).getLastD 0 < 10 ^ 1
        rw [List.getLastD_concat]; omega
      · show (C ++ [c - 48]).length + S.length ≤ C.length + S.length + 1
        rw [List.length_append]; show C.length + 1 + S.length ≤ _; omega
  | false =>
    rw [if_pos (show fl false = 0 from rfl)]
    by_cases z0 : dg = 0 ∨ dg = 3
    · have ha : ac (C, S, dep, cm, dg, false) c = none := by
        unfold ac; rw [if_pos hc, if_neg (show ¬ (false = true) by decide)]; exact if_pos z0
      refine ⟨K, ?_, exc.rf, fun s' hs' => by rw [ha] at hs'; cases hs'⟩
      rw [ha, h6]
      rcases z0 with e | e
      · rw [e, if_pos (show nI 0 = 0 from rfl)]; rfl
      · rw [e, if_neg (show ¬ nI 3 = 0 by decide), if_pos (show nI 3 = 3 from rfl)]; rfl
    · obtain ⟨hne, hv⟩ := hn (by omega)
      rcases List.eq_nil_or_concat C with e0 | ⟨D, v, e0⟩
      · exact absurd e0 hne
      rw [List.concat_eq_append] at e0
      subst e0
      rw [List.getLastD_concat] at hv
      have ha : ac (D ++ [v], S, dep, cm, dg, false) c = some (D ++ [10 * v + (c - 48)], S, dep, cm, dg + 1, false) := by
        unfold ac; rw [if_pos hc, if_neg (show ¬ (false = true) by decide), if_neg (show ¬ (dg = 0 ∨ dg = 3) from z0)]
        dsimp only
        rw [List.dropLast_concat, List.getLastD_concat]
      have hDl : (D ++ [v]).length = D.length + 1 := by simp
      rw [hDl] at hl
      have hv2 : v < 100 ∧ 10 * v + (c - 48) < 10 ^ (dg + 1) ∧ 10 * v + (c - 48) < 1000 := by
        have : dg = 1 ∨ dg = 2 := by omega
        rcases this with e | e <;> rw [e] at hv ⊢ <;> omega
      have h1 : K 105 1 = nI (D.length + 1) := by rw [hC.1, List.length_map, hDl]
      have hla : K 106 D.length = nI v := by
        rw [hC.2 D.length (by rw [List.length_map, hDl]; omega), List.map_append, List.getD, List.getElem?_append_right (by simp)]
        simp [cT_lo (show v < 1000 by omega)]
      refine ⟨ev_up (ev_up K 106 D.length (nI (10 * v + (c - 48)))) 105 6 (nI (dg + 1)), ?_, (exc.rf.up (by simp)).up (by simp), ?_⟩
      · rw [ha, h6, if_neg (show ¬ nI dg = 0 from fun z => z0 (Or.inl ((q_eq (b := 0) (by omega) (by omega)).mp z))), if_neg (show ¬ nI dg = 3 from fun z => z0 (Or.inr ((q_eq (b := 3) (by omega) (by omega)).mp z))), h1, if_neg (show ¬ nI (D.length + 1) = 0 from fun z => absurd ((q_eq (b := 0) (by omega) (by omega)).mp z) (by omega)), show nI (D.length + 1) - 1 = nI D.length from q_sub (a := D.length + 1) (b := 1) (by omega), q_in (by omega), if_pos (by simp <;> omega), if_pos (by simp <;> omega), q_cl (by omega), hla, show nI v * 10 = nI (10 * v) by rw [Nat.mul_comm]; exact q_mul _ 10, q_add, show nI dg + 1 = nI (dg + 1) from q_add _ 1]
        rfl
      · intro s' hs'
        rw [ha] at hs'
        cases hs'
        refine ⟨⟨⟨?_, ?_, h2⟩, ⟨?_, hd, fun i hi => ?_⟩, ?_, (by show dg + 1 ≤ 3; omega), ?_, fun _ => ⟨by simp, ?_⟩⟩, ?_⟩
        · show cdC _ ((D ++ [10 * v + (c - 48)]).map cT)
          refine ⟨?_, fun i hi => ?_⟩
          · rw [u_j (by omega), u_c (by omega), h1]
            simp
          · have hi' : i < D.length + 1 := by simpa using hi
            rw [u_c (by omega)]
            by_cases z : i = D.length
            · rw [z, u_at, List.map_append, List.getD, List.getElem?_append_right (by simp)]
              simp [cT_lo hv2.2.2]
            · rw [u_j z, hC.2 i (by rw [List.length_map, hDl]; exact hi')]
              rw [List.map_append, List.map_append, List.getD, List.getD, List.getElem?_append_left (by simp; omega), List.getElem?_append_left (by simp; omega)]
        · exact hS.ex (by rw [u_j (by omega), u_c (by omega)]) (by rw [u_cf (by omega), u_cf (by omega)])
        · rw [u_j (by omega), u_c (by omega)]; exact h5
        · rw [u_c (by omega), u_c (by omega)]; exact h8 i hi
        · rw [u_at]
        · rw [u_j (by omega), u_c (by omega)]; exact h7
        · show (D ++ [10 * v + (c - 48)]).getLastD 0 < 10 ^ (dg + 1)
          rw [List.getLastD_concat]; exact hv2.2.1
        · show (D ++ [10 * v + (c - 48)]).length + S.length ≤ (D ++ [v]).length + S.length + 1
          simp
end QA
