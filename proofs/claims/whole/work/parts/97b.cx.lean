/-! The context at the law's entry. -/
section LCY
variable {p : Program} {l : Launch} {s : State} {m : MethodId} {meth : Method} {c : Code} {b L : Nat} {xs : Nat → Int32}
theorem lw_str (hs : ∀ c ∈ flatC (given_1.and narrow_1), c.before #[Value.ref b] s = true) {A : Nat → Prop} (hA : ∀ a : Nat, a < s.heap.size → ¬ A a) : ∃ adK adV : Nat → Nat, ∀ i : Nat, i < 12 → (lw_tm i).eval #[Value.ref b] s none [] s = some (.ref (adK i)) ∧ va_O "java/lang/String" (adK i) A s s.heap ∧ va_OF "java/lang/String" "coder" "B" (.int 0) (adK i) A s s.heap ∧ va_OF "java/lang/String" "value" "[B" (.ref (adV i)) (adK i) A s s.heap ∧ va_T .byte (adV i) ((ev_nth ev_strs i).getD []).length (fun j => .int (((ev_nth ev_strs i).getD []).getD j 0)) A s s.heap := by
  have h0 : ∀ i : Nat, ∃ q : Nat × Nat, i < 12 → (lw_tm i).eval #[Value.ref b] s none [] s = some (.ref q.1) ∧ va_O "java/lang/String" q.1 A s s.heap ∧ va_OF "java/lang/String" "coder" "B" (.int 0) q.1 A s s.heap ∧ va_OF "java/lang/String" "value" "[B" (.ref q.2) q.1 A s s.heap ∧ va_T .byte q.2 ((ev_nth ev_strs i).getD []).length (fun j => .int (((ev_nth ev_strs i).getD []).getD j 0)) A s s.heap := by
    intro i
    by_cases hi : i < 12
    · obtain ⟨m1, m2, m3, m4⟩ := lw_m1 i hi
      obtain ⟨z1, z2, z3⟩ := lw_len_ok i hi
      obtain ⟨a, c, cA, kA, q1, q2, q3, q4, q5, q6, -⟩ := Cond.exactly_spec (args := #[Value.ref b]) (first := s) (o := none) (s := s) (idx := []) (t := lw_tm i) (cls := "java/lang/String") (hs _ m1)
      obtain ⟨t, ht, hT⟩ := va_Tof (N := lw_len.getD i 0) (f := fun j => .int ((ev_strs.getD i []).getD j 0)) (A := A) z2 (hs _ m3) (va_eqt (hs _ m4)) (fun j hj => va_eqt (hs _ (lw_m2 i hi j hj))) hA
      rw [z1, z3] at hT
      exact ⟨(a, t), fun _ => ⟨q1, ⟨cA, q3, q5, by rw [q6]; exact q2, hA a (Array.getElem?_eq_some_iff.mp q3).1⟩, vk_OFof q1 (va_eqt (hs _ m2)) hA, vk_OFof q1 ht hA, hT⟩⟩
    · exact ⟨(0, 0), fun h => absurd h hi⟩
  obtain ⟨ad, had⟩ := Classical.axiomOfChoice h0
  exact ⟨fun i => (ad i).1, fun i => (ad i).2, fun i hi => had i hi⟩
theorem lw_237 (hs : ∀ c ∈ flatC (given_1.and narrow_1), c.before #[Value.ref b] s = true) {a : Nat} (h1 : (Term.string "SilentLetters$Rule" 100).eval #[Value.ref b] s none [] s = some (.ref a)) : (Term.string "SilentLettersModel" 237).eval #[Value.ref b] s none [] s = some (.ref a) := by
  obtain ⟨a2, c, cA, kA, q1, -⟩ := Cond.exactly_spec (args := #[Value.ref b]) (first := s) (o := none) (s := s) (idx := []) (t := .string "SilentLettersModel" 237) (cls := "java/lang/String") (hs _ lw_m4.1)
  have h2 := hs _ lw_m4.2.1
  simp [Cond.before, Cond.holds, Cond.value, h1, q1] at h2
  rw [h2]; exact q1
theorem lw_ks {adK : Nat → Nat} (hts : ∀ w ∈ lw_tbl, w.before #[Value.ref b] s = true) (h12 : ∀ i : Nat, i < 12 → (lw_tm i).eval #[Value.ref b] s none [] s = some (.ref (adK i))) (h237 : (Term.string "SilentLettersModel" 237).eval #[Value.ref b] s none [] s = some (.ref (adK 1))) : ∀ oc idx i, ev_lk (ev_ks oc) idx = some i → vk_R (ev_cn oc) idx (ev_tx i) (adK i) s := by
  intro oc idx i h
  have hm := ev_lk_mem h
  unfold ev_ks at hm
  split at hm
  · simp only [List.mem_cons, Prod.mk.injEq, List.not_mem_nil, or_false] at hm
    rcases hm with ⟨rfl, rfl⟩ | ⟨rfl, rfl⟩
    · exact vk_R.of (hts _ (ev_hn_ok (h := 2052) (by decide +kernel))) (h12 0 (by omega))
    · exact vk_R.of (hts _ (ev_hn_ok (h := 2140) (by decide +kernel))) (h12 1 (by omega))
  · simp only [List.mem_cons, Prod.mk.injEq, List.not_mem_nil, or_false] at hm
    rcases hm with ⟨rfl, rfl⟩ | ⟨rfl, rfl⟩ | ⟨rfl, rfl⟩ | ⟨rfl, rfl⟩
    · exact vk_R.of (hts _ (ev_hn_ok (h := 5109) (by decide +kernel))) (h12 2 (by omega))
    · exact vk_R.of (hts _ (ev_hn_ok (h := 5148) (by decide +kernel))) (h12 3 (by omega))
    · exact vk_R.of (hts _ (ev_hn_ok (h := 5156) (by decide +kernel))) (h12 4 (by omega))
    · exact vk_R.of (hts _ (ev_hn_ok (h := 5164) (by decide +kernel))) (h12 5 (by omega))
  · simp only [List.mem_cons, Prod.mk.injEq, List.not_mem_nil, or_false] at hm
    rcases hm with ⟨rfl, rfl⟩ | ⟨rfl, rfl⟩ | ⟨rfl, rfl⟩ | ⟨rfl, rfl⟩ | ⟨rfl, rfl⟩ | ⟨rfl, rfl⟩ | ⟨rfl, rfl⟩
    · exact vk_R.of (hts _ (ev_hn_ok (h := 6107) (by decide +kernel))) (h12 6 (by omega))
    · exact vk_R.of (hts _ (ev_hn_ok (h := 6156) (by decide +kernel))) h237
    · exact vk_R.of (hts _ (ev_hn_ok (h := 6157) (by decide +kernel))) (h12 7 (by omega))
    · exact vk_R.of (hts _ (ev_hn_ok (h := 6158) (by decide +kernel))) (h12 8 (by omega))
    · exact vk_R.of (hts _ (ev_hn_ok (h := 6159) (by decide +kernel))) (h12 9 (by omega))
    · exact vk_R.of (hts _ (ev_hn_ok (h := 7064) (by decide +kernel))) (h12 10 (by omega))
    · exact vk_R.of (hts _ (ev_hn_ok (h := 7065) (by decide +kernel))) (h12 11 (by omega))
  · cases hm
theorem lw_cx (C0 : lw_At p s m meth c b L xs) : ∃ g : ev_G, g.2.1 = s.heap.size ∧ g.2.2.1 = s.heap ∧ ev_Cx g s := by
  obtain ⟨hx, hb, hr, hml, hown, hts, hX, hbl, hlocks, hgv⟩ := C0
  have hs := flat_of_before _ hgv
  have hgw : ∀ w ∈ ev_gw, w.before #[Value.ref b] s = true := fun w hw => hts w (List.mem_filter.mp hw).1
  have hA : ∀ a : Nat, a < s.heap.size → ¬ (fun q : Nat => s.heap.size ≤ q) a := fun a h1 h2 => absurd h2 (by show ¬ s.heap.size ≤ a; omega)
  have hTC := ev_T_ok.2.1
  have hK0 : ∀ ci : Nat, ∃ q : ClassId × (Nat → Nat), ci < 11 → u_Kn s (ev_cl ci).1 (ev_cl ci).2.1 (ev_cl ci).2.2 q.1 q.2 := by
    intro ci
    by_cases hci : ci < 11
    · obtain ⟨cC, iS, hKn⟩ := u_known (C := (ev_cl ci).1) (T := (ev_cl ci).2.1) (N := (ev_cl ci).2.2) (n := (ev_cl ci).2.2) hgw (hTC ci hci).2.1 (lw_inst hgw ci hci)
      exact ⟨(cC, iS), fun _ => hKn⟩
    · exact ⟨(0, fun _ => 0), fun h => absurd h hci⟩
  obtain ⟨DK, hDK⟩ := Classical.axiomOfChoice hK0
  obtain ⟨adK, adV, hstr⟩ := lw_str hs hA
  have hsz : va_Zq "jdk/internal/util/Preconditions" "SIOOBE_FORMATTER" "Ljava/util/function/BiFunction;" (fun q : Nat => s.heap.size ≤ q) s s.heap := va_Zqof (hts _ (ev_hn_ok (h := 2078) (by decide +kernel))) (hts _ (ev_hn_ok (h := 1014) (by decide +kernel))) (hs _ lw_m4.2.2.2.1) hA
  obtain ⟨fv, hfc, hfv⟩ : ∃ fv : Value, fv.category = 1 ∧ va_Z "jdk/internal/util/Preconditions" "SIOOBE_FORMATTER" "Ljava/util/function/BiFunction;" fv (fun q : Nat => s.heap.size ≤ q) s s.heap := by
    rcases hsz with h | ⟨t, h⟩
    · exact ⟨.null, rfl, h⟩
    · exact ⟨.ref t, rfl, h⟩
  obtain ⟨c1, a1, f1⟩ := lw_aC (hgw _ ev_T_ok.2.2.2.2.2.1.1)
  obtain ⟨c2, a2, f2⟩ := lw_aC (hgw _ ev_T_ok.2.2.2.2.2.1.2.1)
  obtain ⟨c3, a3, f3⟩ := lw_aC (hgw _ ev_T_ok.2.2.2.2.2.1.2.2.1)
  obtain ⟨c4, a4, f4⟩ := lw_aC (hgw _ ev_T_ok.2.2.2.2.2.1.2.2.2)
  have hO5 : (Cond.arrayOver (.object RX7)).before #[Value.ref b] s = true := hts _ (ev_hn_ok (h := 1148) (by decide +kernel))
  have hO6 : (Cond.arrayOver (.array .int)).before #[Value.ref b] s = true := hts _ (ev_hn_ok (h := 1075) (by decide +kernel))
  obtain ⟨comp, c5, k5, o1, o2, o3, o4, o5⟩ := Cond.arrayOver_spec hO5
  obtain ⟨c6, a6, f6⟩ := lw_aA hO6
  refine ⟨((fun k => (DK k).1, fun k => (DK k).2), s.heap.size, s.heap, adK, adV, fv, fun t => if t = 1 then c1 else if t = 2 then c2 else if t = 3 then c3 else if t = 4 then c4 else if t = 5 then c5 else c6), rfl, rfl, ⟨fun ci q hq => ?_, fun k q hq => ?_⟩, hO5, hO6, fun w hw => ?_, lw_ks hts (fun i hi => (hstr i hi).1) (lw_237 hs (hstr 1 (by omega)).1), fun i hi => ?_, ?_, hfv, ?_, ?_, hfc⟩
  · have hci : ci < 11 := (List.getElem?_eq_some_iff.mp hq).1
    have e1 := (hTC ci hci).1
    rw [e1] at hq
    cases hq
    exact hDK ci hci
  · match k, hq with
    | 0, hq => cases hq; exact ⟨a1, f1⟩
    | 1, hq => cases hq; exact ⟨a2, f2⟩
    | 2, hq => cases hq; exact ⟨a3, f3⟩
    | 3, hq => cases hq; exact ⟨a4, f4⟩
    | 4, hq => cases hq; exact ⟨fun n z => ⟨fun k h => (by cases h), k5, o3, comp, o4⟩, k5, comp, o3, o4, o1, o5⟩
    | 5, hq => cases hq; exact ⟨a6, f6⟩
    | k + 6, hq => simp [ev_tys] at hq
  · obtain ⟨hw1, hw2⟩ := List.mem_filter.mp hw
    have hz := hts w hw1
    cases w with
    | methodLinkNest a i x y => exact va_tabs rfl rfl hz
    | castable a b => exact va_tabs rfl rfl hz
    | declares x => exact va_tabs rfl rfl hz
    | _ => simp at hw2
  · have hi' : i < 12 := hi
    exact (hstr i hi').2
  · exact va_Zof (hts _ (ev_hn_ok (h := 2062) (by decide +kernel))) (hts _ (ev_hn_ok (h := 1012) (by decide +kernel))) (va_eqi (hs _ lw_m4.2.2.1)) hA
  · exact vx_Zqof (hts _ (ev_hn_ok (h := 5097) (by decide +kernel))) (hts _ (ev_hn_ok (h := 1021) (by decide +kernel))) (hs _ lw_m4.2.2.2.2.1) hA
  · exact vx_Zqof (hts _ (ev_hn_ok (h := 5099) (by decide +kernel))) (hts _ (ev_hn_ok (h := 1021) (by decide +kernel))) (hs _ lw_m4.2.2.2.2.2) hA
end LCY
