/-! The reference reads a text. -/
theorem u_id {α : Type} (f : Nat → Nat → α) (k j : Nat) : ev_up f k j (f k j) = f := by
  funext a b
  by_cases e : a = k ∧ b = j
  · rw [e.1, e.2, u_at]
  · rw [u_no e]
theorem u_up {α : Type} (f : Nat → Nat → α) (k j : Nat) (v w : α) : ev_up (ev_up f k j v) k j w = ev_up f k j w := by
  funext a b
  by_cases e : a = k ∧ b = j
  · rw [e.1, e.2, u_at, u_at]
  · rw [u_no e, u_no e, u_no e]
/-- at p of a text that ends at e -/
def rdM (K : Nat → Nat → Int32) (tx : Nat → Nat) (e p : Nat) : Prop := K 139 11 = nI p ∧ K 139 12 = nI e ∧ e ≤ 80 ∧ p ≤ e ∧ (∀ j, j < e → tx j < 256) ∧ ∀ j, j < e → K 145 j = nI (tx j)
def advK (K : Nat → Nat → Int32) (p : Nat) : Nat → Nat → Int32 := ev_up K 139 11 (nI p)
theorem rdM.adv {K : Nat → Nat → Int32} {tx : Nat → Nat} {e p q : Nat} (hr : rdM K tx e p) (hq : q ≤ e) : rdM (advK K q) tx e q := ⟨u_at _ _ _ _, (u_j (by omega)).trans hr.2.1, hr.2.2.1, hq, hr.2.2.2.2.1, fun j hj => (u_c (by omega)).trans (hr.2.2.2.2.2 j hj)⟩
theorem rdM.ex {K K' : Nat → Nat → Int32} {tx : Nat → Nat} {e p : Nat} (hr : rdM K tx e p) (h1 : K' 139 11 = K 139 11) (h2 : K' 139 12 = K 139 12) (h3 : K' 145 = K 145) : rdM K' tx e p := ⟨h1.trans hr.1, h2.trans hr.2.1, hr.2.2.1, hr.2.2.2.1, hr.2.2.2.2.1, fun j hj => by rw [h3]; exact hr.2.2.2.2.2 j hj⟩
theorem rdM.id {K : Nat → Nat → Int32} {tx : Nat → Nat} {e p : Nat} (hr : rdM K tx e p) : advK K p = K := by
  show ev_up K 139 11 (nI p) = K
  rw [← hr.1, u_id]

/-- the first place of c in the row S -/
def ixO (S : List Nat) (c : Nat) : Option Nat := fs (fun i => decide (S.getD i 0 = c)) S.length
section RD
variable {h : Bool × Nat × Nat} {I K : Nat → Nat → Int32} {L : Nat → Nat → Int64} {tx : Nat → Nat} {e p : Nat}
theorem tk_gen (d : Nat) {r : Value} {S : List Nat} (hS : ∀ i, i < S.length → S.getD i 0 < 256) (hl : S.length < 100) (e0 : ev_do (d + 5) M_Mo_takesOf [.ref 139, r] (ev_mk h K L) = ev_at (d + 4) M_Mo_takesOf 2 [.ref 139, r, .int (nI 0)] [] (ev_mk h K L)) (e2 : ∀ i, i ≤ S.length → ev_at (d + 4) M_Mo_takesOf 2 [.ref 139, r, .int (nI i)] [] (ev_mk h K L) = if i < S.length then (if K 139 11 < K 139 12 then (if ev_in (K 139 11) 80 then (if nI (S.getD i 0) = K 145 (K 139 11).toNatClampNeg then ev_ri (nI i) (ev_mk h (ev_up K 139 11 (K 139 11 + 1)) L) else ev_at (d + 4) M_Mo_takesOf 2 [.ref 139, r, .int (nI (i + 1))] [] (ev_mk h K L)) else none) else ev_ri (-1) (ev_mk h K L)) else ev_ri (-1) (ev_mk h K L)) (hr : rdM K tx e p) : ev_do (d + 5) M_Mo_takesOf [.ref 139, r] (ev_mk h K L) = match (if p < e then ixO S (tx p) else none) with
    | some i => ev_ri (nI i) (ev_mk h (advK K (p + 1)) L)
    | none => ev_ri (-1) (ev_mk h K L) := by
  obtain ⟨h1, h2, h3, h4, h5, h6⟩ := hr
  rw [e0]
  by_cases hp : p < e
  · rw [if_pos hp]
    have hc := h5 p hp
    refine lpE (σ := Unit) (F := fun i _ => ev_at (d + 4) M_Mo_takesOf 2 [.ref 139, r, .int (nI i)] [] (ev_mk h K L)) (fun i _ => fs (fun i => decide (S.getD i 0 = tx p)) i = none) (fun o => o = match ixO S (tx p) with
      | some i => ev_ri (nI i) (ev_mk h (advK K (p + 1)) L)
      | none => ev_ri (-1) (ev_mk h K L)) S.length ?_ ?_ 0 (Nat.zero_le _) () rfl
    · intro i _ hi q
      show (∃ s' : Unit, ev_at (d + 4) M_Mo_takesOf 2 [.ref 139, r, .int (nI i)] [] (ev_mk h K L) = ev_at (d + 4) M_Mo_takesOf 2 [.ref 139, r, .int (nI (i + 1))] [] (ev_mk h K L) ∧ _) ∨ ev_at (d + 4) M_Mo_takesOf 2 [.ref 139, r, .int (nI i)] [] (ev_mk h K L) = _
      rw [e2 i (by omega), if_pos hi, h1, h2, if_pos ((q_lt (by omega) (by omega)).mpr hp), q_in (by omega), if_pos (by simp <;> omega), q_cl (by omega), h6 p hp]
      have hx := hS i hi
      by_cases z : S.getD i 0 = tx p
      · refine Or.inr ?_
        rw [if_pos (by rw [z]), ixO, fs_hit q (decide_eq_true z) _ hi, show nI p + 1 = nI (p + 1) from q_add p 1]; rfl
      · rw [if_neg (fun y => z ((q_eq (by omega) (by omega)).mp y))]
        exact Or.inl ⟨(), rfl, fs_next q (decide_eq_false z)⟩
    · intro _ q
      show ev_at (d + 4) M_Mo_takesOf 2 [.ref 139, r, .int (nI S.length)] [] (ev_mk h K L) = _
      rw [e2 _ (Nat.le_refl _), if_neg (by omega), ixO, q]
  · rw [if_neg hp, e2 0 (Nat.zero_le _), h1, h2, if_neg (c := nI p < nI e) (fun z => hp ((q_lt (by omega) (by omega)).mp z))]
    split <;> rfl
theorem c_chk (d : Nat) {i n : Nat} (hi : i < n) (hn : n < 100) : ev_do (d + 2) M_Str_checkIndex [.int (nI i), .int (nI n)] (ev_mk h K L) = ev_rn (ev_mk h K L) := by
  rw [e_Str_checkIndex_0, e_Pre_checkIndex_0, if_neg (q_nn (by omega)), if_pos ((q_lt (by omega) (by omega)).mpr hi), k_I, k_1, k_2, k_3]
def str0 : List Nat := [109, 111, 117, 115, 110, 100, 105]
theorem str0_v : ∀ i, i < 7 → (ev_fit .char ((((([109, 111, 117, 115, 110, 100, 105] : List Int32).getD i 0) &&& 255).toUInt32 % 65536).toInt32) = true ∧ (((([109, 111, 117, 115, 110, 100, 105] : List Int32).getD i 0) &&& 255).toUInt32 % 65536).toInt32 = nI (str0.getD i 0)) := by decide
theorem c_tk0 (d : Nat) (hr : rdM K tx e p) : ev_do (d + 5) M_Mo_takesOf [.ref 139, .ref 900002] (ev_mk h K L) = match (if p < e then ixO str0 (tx p) else none) with
    | some i => ev_ri (nI i) (ev_mk h (advK K (p + 1)) L)
    | none => ev_ri (-1) (ev_mk h K L) := by
  refine tk_gen d (S := str0) (by decide) (by decide) (e_Mo_takesOf_0_v0 _ _ _ _) (fun i hi => ?_) hr
  rw [e_Mo_takesOf_2_v0, e_Str_length_0_v1, e_Str_coder_0_v1, if_pos (show ev_fit .byte 0 = true by decide), k_I, k_1, k_2, k_3, k_I, k_1, k_2, k_3]
  by_cases hi' : i < 7
  · obtain ⟨v1, v2⟩ := str0_v i hi'
    rw [if_pos (show nI i < (7 : Int32) >>> (0 &&& 31) from (show nI 7 = (7 : Int32) >>> (0 &&& 31) by decide) ▸ (q_lt (b := 7) (by omega) (by omega)).mpr hi'), if_pos (show i < str0.length from hi'), e_Str_charAt_0_v1, e_Str_isLatin1_0_v1, k_I, k_1, k_2, k_3, if_neg (show ¬ (1 : Int32) = 0 by decide), e_Lat_charAt_0_v1, show (.int 7 : Value) = .int (nI 7) from rfl, c_chk d hi' (by omega), k_V, k_1, k_2, k_3, q_in (by omega), if_pos (show decide (i < 7) = true by simpa using hi'), q_cl (by omega), if_pos v1, k_I, k_1, k_2, k_3, if_pos v1, k_I, k_1, k_2, k_3, v2, show nI i + 1 = nI (i + 1) from q_add i 1]
  · rw [if_neg (show ¬ nI i < (7 : Int32) >>> (0 &&& 31) from (show nI 7 = (7 : Int32) >>> (0 &&& 31) by decide) ▸ fun z => hi' ((q_lt (b := 7) (by have : i ≤ 7 := hi; omega) (by omega)).mp z)), if_neg (show ¬ i < str0.length from hi')]
def str1 : List Nat := [110, 120, 111, 114, 113]
theorem str1_v : ∀ i, i < 5 → (ev_fit .char ((((([110, 120, 111, 114, 113] : List Int32).getD i 0) &&& 255).toUInt32 % 65536).toInt32) = true ∧ (((([110, 120, 111, 114, 113] : List Int32).getD i 0) &&& 255).toUInt32 % 65536).toInt32 = nI (str1.getD i 0)) := by decide
theorem c_tk1 (d : Nat) (hr : rdM K tx e p) : ev_do (d + 5) M_Mo_takesOf [.ref 139, .ref 900020] (ev_mk h K L) = match (if p < e then ixO str1 (tx p) else none) with
    | some i => ev_ri (nI i) (ev_mk h (advK K (p + 1)) L)
    | none => ev_ri (-1) (ev_mk h K L) := by
  refine tk_gen d (S := str1) (by decide) (by decide) (e_Mo_takesOf_0_v1 _ _ _ _) (fun i hi => ?_) hr
  rw [e_Mo_takesOf_2_v1, e_Str_length_0_v2, e_Str_coder_0_v2, if_pos (show ev_fit .byte 0 = true by decide), k_I, k_1, k_2, k_3, k_I, k_1, k_2, k_3]
  by_cases hi' : i < 5
  · obtain ⟨v1, v2⟩ := str1_v i hi'
    rw [if_pos (show nI i < (5 : Int32) >>> (0 &&& 31) from (show nI 5 = (5 : Int32) >>> (0 &&& 31) by decide) ▸ (q_lt (b := 5) (by omega) (by omega)).mpr hi'), if_pos (show i < str1.length from hi'), e_Str_charAt_0_v2, e_Str_isLatin1_0_v2, k_I, k_1, k_2, k_3, if_neg (show ¬ (1 : Int32) = 0 by decide), e_Lat_charAt_0_v2, show (.int 5 : Value) = .int (nI 5) from rfl, c_chk d hi' (by omega), k_V, k_1, k_2, k_3, q_in (by omega), if_pos (show decide (i < 5) = true by simpa using hi'), q_cl (by omega), if_pos v1, k_I, k_1, k_2, k_3, if_pos v1, k_I, k_1, k_2, k_3, v2, show nI i + 1 = nI (i + 1) from q_add i 1]
  · rw [if_neg (show ¬ nI i < (5 : Int32) >>> (0 &&& 31) from (show nI 5 = (5 : Int32) >>> (0 &&& 31) by decide) ▸ fun z => hi' ((q_lt (b := 5) (by have : i ≤ 5 := hi; omega) (by omega)).mp z)), if_neg (show ¬ i < str1.length from hi')]
def str2 : List Nat := [97, 98, 99, 100, 101, 102, 103, 104]
theorem str2_v : ∀ i, i < 8 → (ev_fit .char ((((([97, 98, 99, 100, 101, 102, 103, 104] : List Int32).getD i 0) &&& 255).toUInt32 % 65536).toInt32) = true ∧ (((([97, 98, 99, 100, 101, 102, 103, 104] : List Int32).getD i 0) &&& 255).toUInt32 % 65536).toInt32 = nI (str2.getD i 0)) := by decide
theorem c_tk2 (d : Nat) (hr : rdM K tx e p) : ev_do (d + 5) M_Mo_takesOf [.ref 139, .ref 900022] (ev_mk h K L) = match (if p < e then ixO str2 (tx p) else none) with
    | some i => ev_ri (nI i) (ev_mk h (advK K (p + 1)) L)
    | none => ev_ri (-1) (ev_mk h K L) := by
  refine tk_gen d (S := str2) (by decide) (by decide) (e_Mo_takesOf_0_v2 _ _ _ _) (fun i hi => ?_) hr
  rw [e_Mo_takesOf_2_v2, e_Str_length_0_v3, e_Str_coder_0_v3, if_pos (show ev_fit .byte 0 = true by decide), k_I, k_1, k_2, k_3, k_I, k_1, k_2, k_3]
  by_cases hi' : i < 8
  · obtain ⟨v1, v2⟩ := str2_v i hi'
    rw [if_pos (show nI i < (8 : Int32) >>> (0 &&& 31) from (show nI 8 = (8 : Int32) >>> (0 &&& 31) by decide) ▸ (q_lt (b := 8) (by omega) (by omega)).mpr hi'), if_pos (show i < str2.length from hi'), e_Str_charAt_0_v3, e_Str_isLatin1_0_v3, k_I, k_1, k_2, k_3, if_neg (show ¬ (1 : Int32) = 0 by decide), e_Lat_charAt_0_v3, show (.int 8 : Value) = .int (nI 8) from rfl, c_chk d hi' (by omega), k_V, k_1, k_2, k_3, q_in (by omega), if_pos (show decide (i < 8) = true by simpa using hi'), q_cl (by omega), if_pos v1, k_I, k_1, k_2, k_3, if_pos v1, k_I, k_1, k_2, k_3, v2, show nI i + 1 = nI (i + 1) from q_add i 1]
  · rw [if_neg (show ¬ nI i < (8 : Int32) >>> (0 &&& 31) from (show nI 8 = (8 : Int32) >>> (0 &&& 31) by decide) ▸ fun z => hi' ((q_lt (b := 8) (by have : i ≤ 8 := hi; omega) (by omega)).mp z)), if_neg (show ¬ i < str2.length from hi')]
def str3 : List Nat := [97, 98, 99, 100, 101, 102, 103, 104, 65, 66, 67, 68, 69, 70, 71, 72]
theorem str3_v : ∀ i, i < 16 → (ev_fit .char ((((([97, 98, 99, 100, 101, 102, 103, 104, 65, 66, 67, 68, 69, 70, 71, 72] : List Int32).getD i 0) &&& 255).toUInt32 % 65536).toInt32) = true ∧ (((([97, 98, 99, 100, 101, 102, 103, 104, 65, 66, 67, 68, 69, 70, 71, 72] : List Int32).getD i 0) &&& 255).toUInt32 % 65536).toInt32 = nI (str3.getD i 0)) := by decide
theorem c_tk3 (d : Nat) (hr : rdM K tx e p) : ev_do (d + 5) M_Mo_takesOf [.ref 139, .ref 900012] (ev_mk h K L) = match (if p < e then ixO str3 (tx p) else none) with
    | some i => ev_ri (nI i) (ev_mk h (advK K (p + 1)) L)
    | none => ev_ri (-1) (ev_mk h K L) := by
  refine tk_gen d (S := str3) (by decide) (by decide) (e_Mo_takesOf_0_v3 _ _ _ _) (fun i hi => ?_) hr
  rw [e_Mo_takesOf_2_v3, e_Str_length_0_v4, e_Str_coder_0_v4, if_pos (show ev_fit .byte 0 = true by decide), k_I, k_1, k_2, k_3, k_I, k_1, k_2, k_3]
  by_cases hi' : i < 16
  · obtain ⟨v1, v2⟩ := str3_v i hi'
    rw [if_pos (show nI i < (16 : Int32) >>> (0 &&& 31) from (show nI 16 = (16 : Int32) >>> (0 &&& 31) by decide) ▸ (q_lt (b := 16) (by omega) (by omega)).mpr hi'), if_pos (show i < str3.length from hi'), e_Str_charAt_0_v4, e_Str_isLatin1_0_v4, k_I, k_1, k_2, k_3, if_neg (show ¬ (1 : Int32) = 0 by decide), e_Lat_charAt_0_v4, show (.int 16 : Value) = .int (nI 16) from rfl, c_chk d hi' (by omega), k_V, k_1, k_2, k_3, q_in (by omega), if_pos (show decide (i < 16) = true by simpa using hi'), q_cl (by omega), if_pos v1, k_I, k_1, k_2, k_3, if_pos v1, k_I, k_1, k_2, k_3, v2, show nI i + 1 = nI (i + 1) from q_add i 1]
  · rw [if_neg (show ¬ nI i < (16 : Int32) >>> (0 &&& 31) from (show nI 16 = (16 : Int32) >>> (0 &&& 31) by decide) ▸ fun z => hi' ((q_lt (b := 16) (by have : i ≤ 16 := hi; omega) (by omega)).mp z)), if_neg (show ¬ i < str3.length from hi')]
def str4 : List Nat := [60, 62, 61]
theorem str4_v : ∀ i, i < 3 → (ev_fit .char ((((([60, 62, 61] : List Int32).getD i 0) &&& 255).toUInt32 % 65536).toInt32) = true ∧ (((([60, 62, 61] : List Int32).getD i 0) &&& 255).toUInt32 % 65536).toInt32 = nI (str4.getD i 0)) := by decide
theorem c_tk4 (d : Nat) (hr : rdM K tx e p) : ev_do (d + 5) M_Mo_takesOf [.ref 139, .ref 900014] (ev_mk h K L) = match (if p < e then ixO str4 (tx p) else none) with
    | some i => ev_ri (nI i) (ev_mk h (advK K (p + 1)) L)
    | none => ev_ri (-1) (ev_mk h K L) := by
  refine tk_gen d (S := str4) (by decide) (by decide) (e_Mo_takesOf_0_v4 _ _ _ _) (fun i hi => ?_) hr
  rw [e_Mo_takesOf_2_v4, e_Str_length_0_v5, e_Str_coder_0_v5, if_pos (show ev_fit .byte 0 = true by decide), k_I, k_1, k_2, k_3, k_I, k_1, k_2, k_3]
  by_cases hi' : i < 3
  · obtain ⟨v1, v2⟩ := str4_v i hi'
    rw [if_pos (show nI i < (3 : Int32) >>> (0 &&& 31) from (show nI 3 = (3 : Int32) >>> (0 &&& 31) by decide) ▸ (q_lt (b := 3) (by omega) (by omega)).mpr hi'), if_pos (show i < str4.length from hi'), e_Str_charAt_0_v5, e_Str_isLatin1_0_v5, k_I, k_1, k_2, k_3, if_neg (show ¬ (1 : Int32) = 0 by decide), e_Lat_charAt_0_v5, show (.int 3 : Value) = .int (nI 3) from rfl, c_chk d hi' (by omega), k_V, k_1, k_2, k_3, q_in (by omega), if_pos (show decide (i < 3) = true by simpa using hi'), q_cl (by omega), if_pos v1, k_I, k_1, k_2, k_3, if_pos v1, k_I, k_1, k_2, k_3, v2, show nI i + 1 = nI (i + 1) from q_add i 1]
  · rw [if_neg (show ¬ nI i < (3 : Int32) >>> (0 &&& 31) from (show nI 3 = (3 : Int32) >>> (0 &&& 31) by decide) ▸ fun z => hi' ((q_lt (b := 3) (by have : i ≤ 3 := hi; omega) (by omega)).mp z)), if_neg (show ¬ i < str4.length from hi')]
def str5 : List Nat := [43, 45]
theorem str5_v : ∀ i, i < 2 → (ev_fit .char ((((([43, 45] : List Int32).getD i 0) &&& 255).toUInt32 % 65536).toInt32) = true ∧ (((([43, 45] : List Int32).getD i 0) &&& 255).toUInt32 % 65536).toInt32 = nI (str5.getD i 0)) := by decide
theorem c_tk5 (d : Nat) (hr : rdM K tx e p) : ev_do (d + 5) M_Mo_takesOf [.ref 139, .ref 900016] (ev_mk h K L) = match (if p < e then ixO str5 (tx p) else none) with
    | some i => ev_ri (nI i) (ev_mk h (advK K (p + 1)) L)
    | none => ev_ri (-1) (ev_mk h K L) := by
  refine tk_gen d (S := str5) (by decide) (by decide) (e_Mo_takesOf_0_v5 _ _ _ _) (fun i hi => ?_) hr
  rw [e_Mo_takesOf_2_v5, e_Str_length_0_v6, e_Str_coder_0_v6, if_pos (show ev_fit .byte 0 = true by decide), k_I, k_1, k_2, k_3, k_I, k_1, k_2, k_3]
  by_cases hi' : i < 2
  · obtain ⟨v1, v2⟩ := str5_v i hi'
    rw [if_pos (show nI i < (2 : Int32) >>> (0 &&& 31) from (show nI 2 = (2 : Int32) >>> (0 &&& 31) by decide) ▸ (q_lt (b := 2) (by omega) (by omega)).mpr hi'), if_pos (show i < str5.length from hi'), e_Str_charAt_0_v6, e_Str_isLatin1_0_v6, k_I, k_1, k_2, k_3, if_neg (show ¬ (1 : Int32) = 0 by decide), e_Lat_charAt_0_v6, show (.int 2 : Value) = .int (nI 2) from rfl, c_chk d hi' (by omega), k_V, k_1, k_2, k_3, q_in (by omega), if_pos (show decide (i < 2) = true by simpa using hi'), q_cl (by omega), if_pos v1, k_I, k_1, k_2, k_3, if_pos v1, k_I, k_1, k_2, k_3, v2, show nI i + 1 = nI (i + 1) from q_add i 1]
  · rw [if_neg (show ¬ nI i < (2 : Int32) >>> (0 &&& 31) from (show nI 2 = (2 : Int32) >>> (0 &&& 31) by decide) ▸ fun z => hi' ((q_lt (b := 2) (by have : i ≤ 2 := hi; omega) (by omega)).mp z)), if_neg (show ¬ i < str5.length from hi')]
def str6 : List Nat := [42, 47]
theorem str6_v : ∀ i, i < 2 → (ev_fit .char ((((([42, 47] : List Int32).getD i 0) &&& 255).toUInt32 % 65536).toInt32) = true ∧ (((([42, 47] : List Int32).getD i 0) &&& 255).toUInt32 % 65536).toInt32 = nI (str6.getD i 0)) := by decide
theorem c_tk6 (d : Nat) (hr : rdM K tx e p) : ev_do (d + 5) M_Mo_takesOf [.ref 139, .ref 900018] (ev_mk h K L) = match (if p < e then ixO str6 (tx p) else none) with
    | some i => ev_ri (nI i) (ev_mk h (advK K (p + 1)) L)
    | none => ev_ri (-1) (ev_mk h K L) := by
  refine tk_gen d (S := str6) (by decide) (by decide) (e_Mo_takesOf_0_v6 _ _ _ _) (fun i hi => ?_) hr
  rw [e_Mo_takesOf_2_v6, e_Str_length_0_v7, e_Str_coder_0_v7, if_pos (show ev_fit .byte 0 = true by decide), k_I, k_1, k_2, k_3, k_I, k_1, k_2, k_3]
  by_cases hi' : i < 2
  · obtain ⟨v1, v2⟩ := str6_v i hi'
    rw [if_pos (show nI i < (2 : Int32) >>> (0 &&& 31) from (show nI 2 = (2 : Int32) >>> (0 &&& 31) by decide) ▸ (q_lt (b := 2) (by omega) (by omega)).mpr hi'), if_pos (show i < str6.length from hi'), e_Str_charAt_0_v7, e_Str_isLatin1_0_v7, k_I, k_1, k_2, k_3, if_neg (show ¬ (1 : Int32) = 0 by decide), e_Lat_charAt_0_v7, show (.int 2 : Value) = .int (nI 2) from rfl, c_chk d hi' (by omega), k_V, k_1, k_2, k_3, q_in (by omega), if_pos (show decide (i < 2) = true by simpa using hi'), q_cl (by omega), if_pos v1, k_I, k_1, k_2, k_3, if_pos v1, k_I, k_1, k_2, k_3, v2, show nI i + 1 = nI (i + 1) from q_add i 1]
  · rw [if_neg (show ¬ nI i < (2 : Int32) >>> (0 &&& 31) from (show nI 2 = (2 : Int32) >>> (0 &&& 31) by decide) ▸ fun z => hi' ((q_lt (b := 2) (by have : i ≤ 2 := hi; omega) (by omega)).mp z)), if_neg (show ¬ i < str6.length from hi')]
def isDg (c : Nat) : Bool := decide (48 ≤ c) && decide (c ≤ 57)
theorem c_isDigit (d : Nat) (hr : rdM K tx e p) : ev_do (d + 2) M_Mo_isDigit [.ref 139] (ev_mk h K L) = ev_ri (fl (decide (p < e) && isDg (tx p))) (ev_mk h K L) := by
  obtain ⟨h1, h2, h3, h4, h5, h6⟩ := hr
  rw [e_Mo_isDigit_0, h1, h2]
  by_cases hp : p < e
  · have hc := h5 p hp
    have := c_Mo_in d (nI (tx p)) 48 57 h K L
    rw [show (48 : Int32).toInt64 = 48 by decide, show (57 : Int32).toInt64 = 57 by decide] at this
    rw [if_pos ((q_lt (by omega) (by omega)).mpr hp), q_in (by omega), if_pos (by simp <;> omega), q_cl (by omega), h6 p hp, this, k_I, k_1, k_2, k_3, decide_eq_true hp, Bool.true_and]
    unfold isDg
    have z1 : nI (tx p) < 48 ↔ tx p < 48 := q_lt (b := 48) (by omega) (by omega)
    have z2 : 57 < nI (tx p) ↔ 57 < tx p := q_lt (a := 57) (by omega) (by omega)
    by_cases a1 : tx p < 48
    · rw [if_neg (c := ¬ nI (tx p) < 48 ∧ ¬ 57 < nI (tx p)) (fun z => z.1 (z1.mpr a1)), if_pos rfl, decide_eq_false (show ¬ 48 ≤ tx p by omega)]; rfl
    · by_cases a2 : 57 < tx p
      · rw [if_neg (c := ¬ nI (tx p) < 48 ∧ ¬ 57 < nI (tx p)) (fun z => z.2 (z2.mpr a2)), if_pos rfl, decide_eq_false (show ¬ tx p ≤ 57 by omega), Bool.and_false]; rfl
      · rw [if_pos (c := ¬ nI (tx p) < 48 ∧ ¬ 57 < nI (tx p)) ⟨fun z => a1 (z1.mp z), fun z => a2 (z2.mp z)⟩, if_neg (show ¬ (1 : Int32) = 0 by decide), decide_eq_true (show 48 ≤ tx p by omega), decide_eq_true (show tx p ≤ 57 by omega)]; rfl
  · rw [if_neg (fun z => hp ((q_lt (by omega) (by omega)).mp z)), decide_eq_false hp]; rfl
theorem c_takes (d : Nat) {c : Nat} (hc' : c < 256) (hr : rdM K tx e p) : ev_do (d + 2) M_Mo_takes [.ref 139, .int (nI c)] (ev_mk h K L) = ev_ri (fl (decide (p < e) && decide (tx p = c))) (ev_mk h (advK K (p + if (decide (p < e) && decide (tx p = c)) = true then 1 else 0)) L) := by
  have hid := hr.id
  obtain ⟨h1, h2, h3, h4, h5, h6⟩ := hr
  have e29 : ∀ b : Bool, ev_at (d + 1) M_Mo_takes 29 [.ref 139, .float 0, .float 0] [.int (fl b)] (ev_mk h K L) = ev_ri (fl b) (ev_mk h (advK K (p + if b = true then 1 else 0)) L) := by
    intro b
    rw [e_Mo_takes_29, c_Mo_flag d, k_I, k_1, k_2, k_3, if_pos (by cases b <;> decide), h1, fl_or, q_add]
    cases b <;> rfl
  rw [e_Mo_takes_0, h1, h2]
  by_cases hp : p < e
  · have hc := h5 p hp
    rw [if_pos ((q_lt (by omega) (by omega)).mpr hp), q_in (by omega), if_pos (by simp <;> omega), q_cl (by omega), h6 p hp, decide_eq_true hp, Bool.true_and]
    by_cases z : tx p = c
    · rw [if_pos (by rw [z]), decide_eq_true z]; exact e29 true
    · rw [if_neg (fun y => z ((q_eq (by omega) (by omega)).mp y)), decide_eq_false z]; exact e29 false
  · rw [if_neg (fun z => hp ((q_lt (by omega) (by omega)).mp z)), decide_eq_false hp, Bool.false_and]; exact e29 false
/-- the fault's place, where one is -/
theorem c_faultOf (d : Nat) {sz m : Nat} {b : Bool} (hs : sz < 100) (hm : m < 100) (hr : rdM K tx e p) : ev_do (d + 1) M_Mo_faultOf [.ref 139, .int (nI sz), .int (nI m), .int (fl b)] (ev_mk h K L) = ev_ri (if m < sz ∧ ¬ ((b && decide (p = e)) = false ∧ p < m) then -1 - nI m else if (b && decide (p = e)) = true then 0 else -1 - nI p) (ev_mk h K L) := by
  obtain ⟨h1, h2, h3, h4, h5, h6⟩ := hr
  have e20 : ∀ g : Bool, ev_at d M_Mo_faultOf 20 [.ref 139, .int (nI sz), .int (nI m), .float 0, .float 0] [.int (fl g)] (ev_mk h K L) = ev_ri (if m < sz ∧ ¬ (g = false ∧ p < m) then -1 - nI m else if g = true then 0 else -1 - nI p) (ev_mk h K L) := by
    intro g
    have e44 : ev_at d M_Mo_faultOf 44 [.ref 139, .float 0, .float 0, .float 0, .int (fl g)] [] (ev_mk h K L) = ev_ri (if g = true then 0 else -1 - nI p) (ev_mk h K L) := by
      rw [e_Mo_faultOf_44, h1]
      cases g
      · rw [if_pos (show fl false = 0 from rfl)]; rfl
      · rw [if_neg (show ¬ fl true = 0 by decide)]; rfl
    rw [e_Mo_faultOf_20, e44, h1]
    by_cases z1 : m < sz
    · rw [if_pos ((q_lt (by omega) (by omega)).mpr z1)]
      cases g
      · rw [if_pos (show fl false = 0 from rfl)]
        by_cases z2 : p < m
        · rw [if_pos ((q_lt (by omega) (by omega)).mpr z2), if_neg (c := m < sz ∧ ¬ (false = false ∧ p < m)) (fun z => z.2 ⟨rfl, z2⟩)]
        · rw [if_neg (fun z => z2 ((q_lt (by omega) (by omega)).mp z)), if_pos (c := m < sz ∧ ¬ (false = false ∧ p < m)) ⟨z1, fun z => z2 z.2⟩]
      · rw [if_neg (show ¬ fl true = 0 by decide), if_pos (c := m < sz ∧ ¬ (true = false ∧ p < m)) ⟨z1, fun z => by cases z.1⟩]
    · rw [if_neg (fun z => z1 ((q_lt (by omega) (by omega)).mp z)), if_neg (c := m < sz ∧ _) (fun z => z1 z.1)]
  rw [e_Mo_faultOf_0, h1, h2]
  cases b
  · rw [if_pos (show fl false = 0 from rfl)]; exact e20 false
  · rw [if_neg (show ¬ fl true = 0 by decide)]
    by_cases z : p = e
    · rw [if_pos (by rw [z]), Bool.true_and, decide_eq_true z]; exact e20 true
    · rw [if_neg (fun y => z ((q_eq (by omega) (by omega)).mp y)), Bool.true_and, decide_eq_false z]; exact e20 false
end RD
