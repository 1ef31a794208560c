/-! The law's loop. -/
section LAWL
variable {p : Program} {l : Launch} {e : Env} {R : Room} {s : State} {m : MethodId} {args : Array Value} {below : List Frame} {meth : Method} {c : Code} {g : ev_G} {b L : Nat} {xs : Nat → Int32}
def swO : Array Int := #[189, 214, 239, 252, 265, 333, 401, 469, 530, 555, 592, 629, 666, 679, 692, 729, 754, 791, 840, 865, 878, 903, 940, 953, 978, 991, 1028, 1041, 1078, 1127, 1140, 1153, 1166, 1179, 1204, 1229, 1278, 1327, 1340, 1365, 1402, 1427, 1452, 1477]
theorem sw_at : ∀ k, k < 44 → swO[k]? = some ((tgL.getD k 0 : Nat) - 39 : Int) := by decide +kernel
theorem lp_rows : rwB code 23 [(.iload 4, 2), (.aload_n 0, 1), (.arraylength, 1), (.iconst 5, 1), (.isub, 1), (.if_icmp .gt 1548, 3), (.aload_n 0, 1), (.iload 4, 2), (.iaload, 1), (.bipush 63, 2), (.iand, 1), (.tableswitch 1532 0 43 swO, 189)] = true := by decide +kernel
theorem lp_end : rwB code 1571 [(.iinc 4 5, 3), (.goto (-1551), 3), (.iconst 1, 1), (.ireturn, 1)] = true := by decide +kernel
theorem and63 (y : Int32) : ∃ k, k < 64 ∧ y &&& 63 = nI k := by
  refine ⟨(y &&& 63).toBitVec.toNat, ?_, ?_⟩
  · have : (y &&& 63).toBitVec.toNat = y.toBitVec.toNat &&& 63 := by
      rw [Int32.toBitVec_and, BitVec.toNat_and]; rfl
    rw [this]
    exact Nat.lt_of_le_of_lt Nat.and_le_right (by decide)
  · apply Int32.toBitVec_inj.mp
    show _ = (Int32.ofNat _).toBitVec
    rw [Int32.toBitVec_ofNat']
    simp
theorem lt_5 {L i : Nat} (hL : L ≤ 2560) (hi : i ≤ 2565) : nI L - 5 < nI i ↔ L < i + 5 := by
  rw [Int32.lt_iff_toInt_lt, Int32.toInt_sub, q_ti (by omega), q_ti (by omega), show (5 : Int32).toInt = 5 by decide, Int.bmod_eq_of_le (by omega) (by omega)]; omega
theorem law_loop (C : lC p s m meth c g b L xs) (hl0 : l.stackTraces = false) (hL : L ≤ 2560) : ∀ n i h I L' ex, L ≤ i + n → i ≤ L → inv I L' → h.2.1 ≤ 1000 + i → h.2.2 ≤ 100000 + 6 * i → lP p l e s m below meth c g b 23 (ex ++ lvL g b i) [] (ev_mk h I L') := by
  have C' := C
  obtain ⟨hx, hb, hr, hml, hown, hts, hX, hbl, hlocks, hCx, hg1, hg2⟩ := C
  have r1 := rwB_c lp_rows
  have r2 := rwB_c r1.2
  have r3 := rwB_c r2.2
  have r4 := rwB_c r3.2
  have r5 := rwB_c r4.2
  have r6 := rwB_c r5.2
  have r7 := rwB_c r6.2
  have r8 := rwB_c r7.2
  have r9 := rwB_c r8.2
  have r10 := rwB_c r9.2
  have r11 := rwB_c r10.2
  have r12 := rwB_c r11.2
  have t1 := rwB_c lp_end
  have t2 := rwB_c t1.2
  have t3 := rwB_c t2.2
  have t4 := rwB_c t3.2
  have hbA : ¬ ev_A g b := show ¬ g.2.1 ≤ b by omega
  intro n
  induction n with
  | zero =>
    intro i h I L' ex hn hiL hv hc hs H lc locs hR hl hS
    have hl : lv_has lc 8 (lvL g b i) := ⟨hl.1, hl.2.1, fun q hq => hl.2.2 q (List.mem_append_right _ hq)⟩
    refine lv_iload hx hb r1.1 (hl.2.2 (4, .int (nI i)) (by simp [lvL])) ?_
    refine lv_aload_n hx hb r2.1 rfl (hl.2.2 (0, .ref b) (by simp [lvL])) ?_
    refine va_slen hx hb hX hbl hbA hS r3.1 ?_
    refine lv_iconst (v := 5) hx hb r4.1 (by decide) ?_
    refine lv_isub hx hb r5.1 ?_
    refine lv_icmp_gt (tgt := 1577) hx hb r6.1 (by decide) (fun z => ?_) (fun z => absurd ((lt_5 (L := L) (i := i) hL (by omega)).mpr (by omega)) z)
    refine lv_iconst (v := 1) hx hb t3.1 (by decide) ?_
    refine va_forget (fun q hq => by have := hS.2.2 q hq; have h9 : g.2.1 ≤ q.base := this; omega) ?_
    refine W.widen (k := 601024) (n := 7293034) (by show h.2.1 ≤ _; omega) (by show h.2.2 ≤ _; omega) ?_
    exact lw_ret hx hb hr hlocks t4.1
  | succ n ih =>
    intro i h I L' ex hn hiL hv hc hs H lc locs hR hl hS
    have hl : lv_has lc 8 (lvL g b i) := ⟨hl.1, hl.2.1, fun q hq => hl.2.2 q (List.mem_append_right _ hq)⟩
    refine lv_iload hx hb r1.1 (hl.2.2 (4, .int (nI i)) (by simp [lvL])) ?_
    refine lv_aload_n hx hb r2.1 rfl (hl.2.2 (0, .ref b) (by simp [lvL])) ?_
    refine va_slen hx hb hX hbl hbA hS r3.1 ?_
    refine lv_iconst (v := 5) hx hb r4.1 (by decide) ?_
    refine lv_isub hx hb r5.1 ?_
    refine lv_icmp_gt (tgt := 1577) hx hb r6.1 (by decide) (fun z => ?_) (fun z => ?_)
    · refine lv_iconst (v := 1) hx hb t3.1 (by decide) ?_
      refine va_forget (fun q hq => by have := hS.2.2 q hq; have h9 : g.2.1 ≤ q.base := this; omega) ?_
      refine W.widen (k := 601024) (n := 7293034) (by show h.2.1 ≤ _; omega) (by show h.2.2 ≤ _; omega) ?_
      exact lw_ret hx hb hr hlocks t4.1
    · have hi5 : i + 4 < L := by
        by_cases y : L < i + 5
        · exact absurd ((lt_5 (L := L) (i := i) hL (by omega)).mpr y) z
        · omega
      have nx : ∀ h2 I2 L2 ex, inv I2 L2 → (h2 = h ∨ h2 = (false, h.2.1 + 1, h.2.2 + 6)) → lP p l e s m below meth c g b 1571 (ex ++ lvL g b i) [] (ev_mk h2 I2 L2) := by
        intro h2 I2 L2 ex hv2 hh H lc locs hR hl hS
        have hl : lv_has lc 8 (lvL g b i) := ⟨hl.1, hl.2.1, fun q hq => hl.2.2 q (List.mem_append_right _ hq)⟩
        refine lv_iinc (v := nI (i + 5)) (lv' := lvL g b (i + 5)) hx hb t1.1 hl (k := 0) rfl (show nI i + nI 5 = nI (i + 5) from q_add i 5) (by decide) rfl (fun lc hl => ?_)
        refine lv_goto (tgt := 23) hx hb t2.1 (by decide) ?_
        have b1 : h2.2.1 ≤ 1000 + (i + 5) := by
          rcases hh with e | e <;> rw [e]
          · omega
          · show h.2.1 + 1 ≤ _; omega
        have b2 : h2.2.2 ≤ 100000 + 6 * (i + 5) := by
          rcases hh with e | e <;> rw [e]
          · omega
          · show h.2.2 + 6 ≤ _; omega
        exact ih (i + 5) h2 I2 L2 [] (by omega) (by omega) hv2 b1 b2 H lc locs hR hl hS
      refine lv_aload_n hx hb r7.1 rfl (hl.2.2 (0, .ref b) (by simp [lvL])) ?_
      refine lv_iload hx hb r8.1 (hl.2.2 (4, .int (nI i)) (by simp [lvL])) ?_
      refine va_sld hx hb hX hbl hbA hS (ev_in_vp (by rw [q_in (by omega)]; exact decide_eq_true (by omega))) r9.1 ?_
      refine lv_bipush (v := 63) hx hb r10.1 (by decide) ?_
      refine lv_iand hx hb r11.1 ?_
      obtain ⟨k, hk, ek⟩ := and63 (xs (nI i).toNatClampNeg)
      rw [ek]
      have hti : (nI k).toInt = (k : Int) := q_ti (by omega)
      by_cases hk4 : k < 44
      · have htg : tgL.getD k 0 < 2000 ∧ 39 ≤ tgL.getD k 0 := (show ∀ k, k < 44 → tgL.getD k 0 < 2000 ∧ 39 ≤ tgL.getD k 0 by decide +kernel) k hk4
        refine lv_tableIn (off := ((tgL.getD k 0 : Nat) - 39 : Int)) (tgt := tgL.getD k 0) hx hb r12.1 (by rw [hti]; omega) (by rw [hti]; omega) (by rw [hti, show ((k : Int) - 0).toNat = k by omega]; exact sw_at k hk4) (by show (39 : Int) + _ = _; omega) ?_
        exact ca_all C' hl0 hv hi5 hL (by omega) (by omega) nx k hk4 H lc locs hR hl hS
      · refine lv_tableOut (tgt := 1571) hx hb r12.1 (Or.inr (by rw [hti]; omega)) (by decide) ?_
        exact nx h I L' [] hv (Or.inl rfl) H lc locs hR hl hS
end LAWL
