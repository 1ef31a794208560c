/-! What the statement gives of the start. -/
def lw_tm (i : Nat) : Term := match i with
  | 0 => .string "SilentLetters$Rule" 25
  | 1 => .string "SilentLetters$Rule" 100
  | 2 => .string "SilentLetters" 133
  | 3 => .string "SilentLetters" 168
  | 4 => .string "SilentLetters" 177
  | 5 => .string "SilentLetters" 424
  | 6 => .string "SilentLettersModel" 193
  | 7 => .string "SilentLettersModel" 242
  | 8 => .string "SilentLettersModel" 244
  | 9 => .string "SilentLettersModel" 246
  | 10 => .string "SilentLettersModel" 339
  | _ => .string "SilentLettersModel" 341
def lw_len : List Nat := [7, 7, 24, 12, 26, 14, 16, 3, 2, 2, 5, 8]
theorem lw_len_ok : ∀ i, i < 12 → lw_len.getD i 0 = ((ev_nth ev_strs i).getD []).length ∧ lw_len.getD i 0 < 2 ^ 31 ∧ ev_strs.getD i [] = (ev_nth ev_strs i).getD [] := by decide +kernel
section LCX
variable {p : Program} {s : State} {m : MethodId} {meth : Method} {c : Code} {b L : Nat} {xs : Nat → Int32}
theorem lw_inst (hgw : ∀ w ∈ ev_gw, w.before #[Value.ref b] s = true) : ∀ ci, ci < 11 → (Cond.instantiable (ev_cl ci).1 (ev_cl ci).2.2).before #[Value.ref b] s = true
  | 0, h => hgw _ ((ev_T_ok.2.2.2.1 10 23 0 rfl).1 h).2.1
  | 1, h => hgw _ ((ev_T_ok.2.2.2.1 10 66 1 rfl).1 h).2.1
  | 2, h => hgw _ ((ev_T_ok.2.2.2.1 10 73 2 rfl).1 h).2.1
  | 3, h => hgw _ ((ev_T_ok.2.2.2.1 10 40 3 rfl).1 h).2.1
  | 4, h => hgw _ ((ev_T_ok.2.2.2.1 10 16 4 rfl).1 h).2.1
  | 5, h => hgw _ ((ev_T_ok.2.2.2.1 10 47 5 rfl).1 h).2.1
  | 6, h => hgw _ ((ev_T_ok.2.2.2.1 10 30 6 rfl).1 h).2.1
  | 7, h => hgw _ ((ev_T_ok.2.2.2.1 10 7 7 rfl).1 h).2.1
  | 8, h => hgw _ ((ev_T_ok.2.2.2.1 10 57 8 rfl).1 h).2.1
  | 9, h => hgw _ ((ev_T_ok.2.2.2.1 12 8 9 rfl).1 h).2.1
  | 10, h => hgw _ ((ev_T_ok.2.2.2.1 12 26 10 rfl).1 h).2.1
  | _ + 11, h => absurd h (by omega)
theorem lw_aC {ty : FieldType} (h : (Cond.arrayClass ty).before #[Value.ref b] s = true) : ∃ cA : ClassId, ArrOfT s cA ty ∧ s.vm.findClass ("[" ++ ty.toString) = some cA := by
  obtain ⟨cA, kA, comp, h1, h2, h3⟩ := Cond.arrayClass_spec h
  exact ⟨cA, fun n z => ⟨fun k h => (by cases h), kA, h2, comp, h3⟩, h1⟩
theorem lw_aA (h : (Cond.arrayOver (.array .int)).before #[Value.ref b] s = true) : ∃ cA : ClassId, ArrOfT s cA (.array .int) ∧ s.vm.findClass ("[" ++ (FieldType.array .int).toString) = some cA := by
  unfold Cond.before Cond.holds at h
  simp only [Cond.value] at h
  have h := eq_of_beq h
  rw [Option.bind_eq_some_iff] at h
  obtain ⟨comp, h1, h⟩ := h
  rw [Option.bind_eq_some_iff] at h
  obtain ⟨cA, h2, h⟩ := h
  rw [Option.map_eq_some_iff] at h
  obtain ⟨kA, h3, h⟩ := h
  split at h
  · rename_i comp' ty' hk
    rw [Bool.and_eq_true, decide_eq_true_iff, decide_eq_true_iff] at h
    exact ⟨cA, fun n z => ⟨fun k h => (by cases h), kA, h3, comp', by rw [hk, h.1]⟩, h.2⟩
  · cases h
theorem lw_m1 : ∀ i, i < 12 → Cond.exactly (lw_tm i) "java/lang/String" ∈ flatC (given_1.and narrow_1) ∧ Cond.eq (.field (lw_tm i) "java/lang/String" "coder" "B") (.int 0) ∈ flatC (given_1.and narrow_1) ∧ Cond.arrayOf (.field (lw_tm i) "java/lang/String" "value" "[B") .byte ∈ flatC (given_1.and narrow_1) ∧ Cond.eq (.length (.field (lw_tm i) "java/lang/String" "value" "[B")) (.int (Int32.ofNat (lw_len.getD i 0))) ∈ flatC (given_1.and narrow_1) := by decide +kernel
theorem lw_m2 : ∀ i, i < 12 → ∀ j, j < lw_len.getD i 0 → Cond.eq (.elem (.field (lw_tm i) "java/lang/String" "value" "[B") (.int (Int32.ofNat j))) (.int ((ev_strs.getD i []).getD j 0)) ∈ flatC (given_1.and narrow_1) := by decide +kernel
theorem lw_m4 : Cond.exactly (.string "SilentLettersModel" 237) "java/lang/String" ∈ flatC (given_1.and narrow_1) ∧ Cond.eq (.string "SilentLetters$Rule" 100) (.string "SilentLettersModel" 237) ∈ flatC (given_1.and narrow_1) ∧ Cond.eq (.static "java/lang/String" "COMPACT_STRINGS" "Z") (.int 1) ∈ flatC (given_1.and narrow_1) ∧ Cond.isRef (.static "jdk/internal/util/Preconditions" "SIOOBE_FORMATTER" "Ljava/util/function/BiFunction;") ∈ flatC (given_1.and narrow_1) ∧ Cond.isRef (.static Bundle.tN "UNASSIGNED_STACK" Bundle.steD) ∈ flatC (given_1.and narrow_1) ∧ Cond.isRef (.static Bundle.tN "SUPPRESSED_SENTINEL" Bundle.listD) ∈ flatC (given_1.and narrow_1) := by decide +kernel
end LCX
