/-! A grudge, the reference. -/
/-- the plain rule, m-o*2-3 -/
def plT : Nat → Nat
  | 0 => 1000
  | 1 => 1001
  | 2 => 2
  | 3 => 2005
  | 4 => 2004
  | 5 => 3
  | _ => 2004
theorem rrun_congr {th : Nat → Int32} {T T' : Nat → Nat} : ∀ {n : Nat}, (∀ j, j < n → T j = T' j) → rrun th T n = rrun th T' n
  | 0, _ => rfl
  | n + 1, h => by rw [rrun, rrun, rrun_congr (n := n) (fun j hj => h j (by omega)), h n (by omega)]
theorem rrun_pl (th : Nat → Int32) : rrun th plT 7 = [th 0 - th 1 * nI 2 - nI 3] := rfl
/-- the reference's rule: its code, or none for the plain one -/
def rlM2 (I : Nat → Nat → Int32) (T : Nat → Nat) (n : Nat) : Prop := (0 < n ∧ rlM I T n) ∨ (I 139 20 = 0 ∧ n = 7 ∧ ∀ j, j < 7 → T j = plT j)
theorem rlM2.ex {ks : List Nat} {I J : Nat → Nat → Int32} {T : Nat → Nat} {n : Nat} (hR : rlM2 I T n) (h : exc ks I J) (h1 : 139 ∉ ks) (h2 : 149 ∉ ks) : rlM2 J T n := by
  unfold rlM2 rlM
  rw [h 139 h1, h 149 h2]
  exact hR
section GM
variable {h : Bool × Nat × Nat} {I : Nat → Nat → Int32} {L : Nat → Nat → Int64} {W : Nat} {len : Nat → Nat} {lt : Nat → Nat → Nat}
theorem c_ruled2 (d : Nat) {n : Nat} {T : Nat → Nat} {th : Nat → Int32} (hR : rlM2 I T n) (hT : okT T n) (hth : ∀ j, j < 7 → I 152 j = th j) : ∃ I', ev_do (d + 3) M_Mo_ruled [.ref 139] (ev_mk h I L) = ev_ri ((rrun th T n).getLastD 0) (ev_mk h I' L) ∧ exc [151] I I' := by
  rcases hR with ⟨h0, hR⟩ | ⟨h0, rfl, hp⟩
  · exact c_ruled d hR h0 hT hth
  · refine ⟨I, ?_, exc.rf⟩
    rw [c_ruled0 (d + 2) h0, rrun_congr hp, rrun_pl, hth 0 (by omega), hth 1 (by omega)]
    show ev_ri (th 0 - 2 * th 1 - 3) _ = ev_ri (th 0 - th 1 * 2 - 3) _
    rw [Int32.mul_comm]
theorem c_Mo_grudgeAt (d : Nat) (hB : bkM I W len lt) {c l n st : Nat} {off : Int32} {T : Nat → Nat} {u : Nat → Nat} (hc : c = 143 ∨ c = 144) (hl : l < 8) (hu : ∀ w, w < W → I c w = nI (u w)) (hR : rlM2 I T n) (hT : okT T n) (hst : I c 24 = nI st) (hst8 : st < 256) : ∃ I', ev_do (d + 4) M_Mo_grudgeAt [.ref 139, .ref c, .int (nI l), .int off] (ev_mk h I L) = ev_ri ((rrun (thg (I c (8 + l)) off (sgn len lt u l true W) (sgn len lt u l false W) (pcn st) (I c 25) l) T n).getLastD 0) (ev_mk h I' L) ∧ exc [151, 152] I I' := by
  have hne : c ≠ 152 := by omega
  have hcn : c ∉ [152] := by simpa using hne
  obtain ⟨J1, hJ1⟩ : ∃ J, J = ev_up (ev_up I 152 0 (I c (8 + l))) 152 1 off := ⟨_, rfl⟩
  have x1 : exc [152] I J1 := by rw [hJ1]; exact (exc.rf.up (by simp)).up (by simp)
  obtain ⟨J2, hJ2⟩ : ∃ J, J = ev_up J1 152 2 (nI (sgn len lt u l true W)) := ⟨_, rfl⟩
  have x2 : exc [152] I J2 := by rw [hJ2]; exact x1.up (by simp)
  obtain ⟨J3, hJ3⟩ : ∃ J, J = ev_up J2 152 3 (nI (sgn len lt u l false W)) := ⟨_, rfl⟩
  have x3 : exc [152] I J3 := by rw [hJ3]; exact x2.up (by simp)
  obtain ⟨J4, hJ4⟩ : ∃ J, J = ev_up (ev_up (ev_up J3 152 4 (nI (pcn st))) 152 5 (I c 25 - I c 25 / 7 * 7)) 152 6 (nI l) := ⟨_, rfl⟩
  have x4 : exc [152] I J4 := by rw [hJ4]; exact ((x3.up (by simp)).up (by simp)).up (by simp)
  have hth : ∀ j, j < 7 → J4 152 j = thg (I c (8 + l)) off (sgn len lt u l true W) (sgn len lt u l false W) (pcn st) (I c 25) l j := by
    intro j hj
    rw [hJ4, hJ3, hJ2, hJ1]
    match j, hj with
    | 0, _ => rfl
    | 1, _ => rfl
    | 2, _ => rfl
    | 3, _ => rfl
    | 4, _ => rfl
    | 5, _ => rfl
    | 6, _ => rfl
  obtain ⟨I', e1, e2⟩ := c_ruled2 (h := h) (L := L) d (hR.ex x4 (by simp) (by simp)) hT hth
  refine ⟨I', ?_, (x4.mono (by simp)).tr (e2.mono (by simp))⟩
  have e8 : (8 : Int32) + nI l = nI (8 + l) := q_add 8 l
  have s1 := c_Mo_signsOf (h := h) (L := L) (b := true) (u := u) (l := l) (d + 1) (hB.ex x1 (by simp) (by simp) (by simp)) hc hl (fun w hw => by rw [x1 c hcn]; exact hu w hw)
  have s2 := c_Mo_signsOf (h := h) (L := L) (b := false) (u := u) (l := l) (d + 1) (hB.ex x2 (by simp) (by simp) (by simp)) hc hl (fun w hw => by rw [x2 c hcn]; exact hu w hw)
  rw [show fl true = (1 : Int32) from rfl] at s1
  rw [show fl false = (0 : Int32) from rfl] at s2
  rw [e_Mo_grudgeAt_0 _ _ _ hc, e8, q_in (by omega), if_pos (by simp; omega), q_cl (by omega), ← hJ1, s1, k_I, k_1, k_2, k_3, ← hJ2, s2, k_I, k_1, k_2, k_3, x2 c hcn, hst, ← hJ3, c_bitCount (d + 2) hst8, k_I, k_1, k_2, k_3, x3 c hcn, ← hJ4, e1, k_I, k_1, k_2, k_3]
end GM
