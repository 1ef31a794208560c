/-! What holds between calls. A picture: text, row told, words, state, rule, what can be undone, what is kept, what was noticed. -/
abbrev aB : Type := Nat × (Nat → Nat) × (Nat → Nat → Nat)
abbrev aP : Type := (Nat × (Nat → Nat)) × (Nat × (Nat → Int64)) × aB × (Nat → Int32) × (Nat × (Nat → Nat)) × (Nat × (Nat → Nat → Int32)) × ((Nat → Bool) × (Nat → Nat → Int32)) × (Nat × (Nat → Nat) × (Nat → Nat) × (Nat → Bool))
def aTx (A : aP) : Nat × (Nat → Nat) := A.1
def aRw (A : aP) : Nat × (Nat → Int64) := A.2.1
def aBk (A : aP) : aB := A.2.2.1
def aS (A : aP) : Nat → Int32 := A.2.2.2.1
def aRl (A : aP) : Nat × (Nat → Nat) := A.2.2.2.2.1
def aUn (A : aP) : Nat × (Nat → Nat → Int32) := A.2.2.2.2.2.1
def aKp (A : aP) : (Nat → Bool) × (Nat → Nat → Int32) := A.2.2.2.2.2.2.1
def aNt (A : aP) : Nat × (Nat → Nat) × (Nat → Nat) × (Nat → Bool) := A.2.2.2.2.2.2.2
/-- the picture with another text, row, state, .. -/
def sTx (A : aP) (t : Nat × (Nat → Nat)) : aP := (t, A.2)
def sRw (A : aP) (t : Nat × (Nat → Int64)) : aP := (A.1, t, A.2.2)
def sS (A : aP) (t : Nat → Int32) : aP := (A.1, A.2.1, A.2.2.1, t, A.2.2.2.2)
def sRl (A : aP) (t : Nat × (Nat → Nat)) : aP := (A.1, A.2.1, A.2.2.1, A.2.2.2.1, t, A.2.2.2.2.2)
def sUn (A : aP) (t : Nat × (Nat → Nat → Int32)) : aP := (A.1, A.2.1, A.2.2.1, A.2.2.2.1, A.2.2.2.2.1, t, A.2.2.2.2.2.2)
def sKp (A : aP) (t : (Nat → Bool) × (Nat → Nat → Int32)) : aP := (A.1, A.2.1, A.2.2.1, A.2.2.2.1, A.2.2.2.2.1, A.2.2.2.2.2.1, t, A.2.2.2.2.2.2.2)
def sNt (A : aP) (t : Nat × (Nat → Nat) × (Nat → Nat) × (Nat → Bool)) : aP := (A.1, A.2.1, A.2.2.1, A.2.2.2.1, A.2.2.2.2.1, A.2.2.2.2.2.1, A.2.2.2.2.2.2.1, t)
/-- the numbers are as they can be -/
def wfA (A : aP) : Prop := ((aTx A).1 ≤ 80 ∧ ∀ j, j < (aTx A).1 → (aTx A).2 j < 256) ∧ (aRw A).1 ≤ 9 ∧ wfB (aBk A).1 (aBk A).2.1 (aBk A).2.2 ∧ wfS (aBk A).2.1 (aS A) ∧ okT (aRl A).2 (aRl A).1 ∧ ((aUn A).1 ≤ 15 ∧ ∀ i, i < (aUn A).1 → wfS (aBk A).2.1 ((aUn A).2 i)) ∧ (∀ i, i < 3 → (aKp A).1 i = true → wfS (aBk A).2.1 ((aKp A).2 i)) ∧ ((aNt A).1 ≤ 12 ∧ ∀ i, i < (aNt A).1 → (aNt A).2.1 i < (aBk A).1 ∧ (aNt A).2.2.1 i < (aBk A).1 ∧ (aNt A).2.1 i ≠ (aNt A).2.2.1 i)
def txC (I : Nat → Nat → Int32) (t : Nat × (Nat → Nat)) : Prop := I 1 1 = nI t.1 ∧ ∀ j, j < t.1 → I 2 j = nI (t.2 j)
def txM (I : Nat → Nat → Int32) (t : Nat × (Nat → Nat)) : Prop := I 139 10 = nI t.1 ∧ ∀ j, j < t.1 → I 145 j = nI (t.2 j)
def rwC (I : Nat → Nat → Int32) (L : Nat → Nat → Int64) (t : Nat × (Nat → Int64)) : Prop := I 3 1 = nI t.1 ∧ ∀ j, j < t.1 → L 4 j = t.2 j
def rwM (I : Nat → Nat → Int32) (L : Nat → Nat → Int64) (t : Nat × (Nat → Int64)) : Prop := I 139 1 = nI t.1 ∧ ∀ j, j < t.1 → L 140 j = t.2 j
def ntC (I : Nat → Nat → Int32) (t : Nat × (Nat → Nat) × (Nat → Nat) × (Nat → Bool)) : Prop := I 129 3 = nI t.1 ∧ ∀ j, j < t.1 → I 130 j = nI (t.2.1 j) ∧ I 131 j = nI (t.2.2.1 j) ∧ I 132 j = fl (t.2.2.2 j)
def ntM (I : Nat → Nat → Int32) (t : Nat × (Nat → Nat) × (Nat → Nat) × (Nat → Bool)) : Prop := I 139 35 = nI t.1 ∧ ∀ j, j < t.1 → I 162 j = nI (t.2.1 j) ∧ I 163 j = nI (t.2.2.1 j) ∧ I 164 j = fl (t.2.2.2 j)
def invC (I : Nat → Nat → Int32) (L : Nat → Nat → Int64) (A : aP) : Prop := txC I (aTx A) ∧ rwC I L (aRw A) ∧ bkD I (aBk A).1 (aBk A).2.1 (aBk A).2.2 ∧ cSt 17 I (aS A) ∧ rlC 101 I (aRl A).2 (aRl A).1 ∧ uC I (aUn A).1 (aUn A).2 ∧ kC I (aKp A).1 (aKp A).2 ∧ ntC I (aNt A) ∧ ∀ w, w < 8 → I 127 (9 * w) = 0
def invM (I : Nat → Nat → Int32) (L : Nat → Nat → Int64) (A : aP) : Prop := txM I (aTx A) ∧ rwM I L (aRw A) ∧ bkM I (aBk A).1 (aBk A).2.1 (aBk A).2.2 ∧ mSt 143 0 I (aS A) ∧ rlM2 I (aRl A).2 (aRl A).1 ∧ uM I (aUn A).1 (aUn A).2 ∧ (∃ ch, ch ≤ (aBk A).1 ∧ kM I ch (aKp A).1 (aKp A).2) ∧ ntM I (aNt A)
def inv (I : Nat → Nat → Int32) (L : Nat → Nat → Int64) : Prop := ∃ A, wfA A ∧ invC I L A ∧ invM I L A
/-- cells of the class that a question may use: 0, 3, 21 .. 24, 101, 103 .. 128, 133 .. 138 -/
def scC (a : Nat) : Prop := a = 0 ∨ a = 3 ∨ (21 ≤ a ∧ a < 25) ∨ a = 101 ∨ (103 ≤ a ∧ a < 129) ∨ (133 ≤ a ∧ a < 139)
/-- of the reference -/
def scM (a : Nat) : Prop := a = 139 ∨ a = 144 ∨ (146 ≤ a ∧ a < 149) ∨ (150 ≤ a ∧ a < 155) ∨ (156 ≤ a ∧ a < 162) ∨ (165 ≤ a ∧ a < 171)
def frC (I I' : Nat → Nat → Int32) : Prop := (∀ a, ¬ scC a → I' a = I a) ∧ I' 101 1 = I 101 1 ∧ ∀ w, w < 8 → I' 127 (9 * w) = I 127 (9 * w)
def frM (I I' : Nat → Nat → Int32) : Prop := (∀ a, ¬ scM a → I' a = I a) ∧ ∀ j, (j = 3 ∨ j = 4 ∨ j = 10 ∨ j = 20 ∨ j = 26 ∨ j = 35) → I' 139 j = I 139 j
theorem frC.rf {I : Nat → Nat → Int32} : frC I I := ⟨fun _ _ => rfl, rfl, fun _ _ => rfl⟩
theorem frM.rf {I : Nat → Nat → Int32} : frM I I := ⟨fun _ _ => rfl, fun _ _ => rfl⟩
theorem frC.tr {I J K : Nat → Nat → Int32} (h1 : frC I J) (h2 : frC J K) : frC I K := ⟨fun a ha => (h2.1 a ha).trans (h1.1 a ha), h2.2.1.trans h1.2.1, fun w hw => (h2.2.2 w hw).trans (h1.2.2 w hw)⟩
theorem frM.tr {I J K : Nat → Nat → Int32} (h1 : frM I J) (h2 : frM J K) : frM I K := ⟨fun a ha => (h2.1 a ha).trans (h1.1 a ha), fun j hj => (h2.2 j hj).trans (h1.2 j hj)⟩
/-- from a list of cells without 101 and 127 -/
theorem frC.of {ks : List Nat} {I J : Nat → Nat → Int32} (hx : exc ks I J) (h : ∀ a, a ∈ ks → scC a) (h1 : J 101 1 = I 101 1) (h2 : 127 ∉ ks) : frC I J := ⟨fun a ha => hx a (fun z => ha (h a z)), h1, fun w _ => by rw [hx 127 h2]⟩
theorem frC.up {I J : Nat → Nat → Int32} (hf : frC I J) {k j : Nat} {v : Int32} (h : scC k) (h1 : k ≠ 101) (h2 : k ≠ 127) : frC I (ev_up J k j v) := by
  refine ⟨fun a ha => ?_, ?_, fun w hw => ?_⟩
  · rw [u_cf (show a ≠ k from fun z => ha (by rw [z]; exact h))]; exact hf.1 a ha
  · rw [u_c (fun z => h1 z.symm)]; exact hf.2.1
  · rw [u_c (fun z => h2 z.symm)]; exact hf.2.2 w hw
theorem frM.of {ks : List Nat} {I J : Nat → Nat → Int32} (hx : exc ks I J) (h : ∀ a, a ∈ ks → scM a) (h1 : 139 ∉ ks) : frM I J := ⟨fun a ha => hx a (fun z => ha (h a z)), fun j _ => by rw [hx 139 h1]⟩
theorem frM.up {I J : Nat → Nat → Int32} (hf : frM I J) {k j : Nat} {v : Int32} (h : scM k) (h1 : k = 139 → ¬ (j = 3 ∨ j = 4 ∨ j = 10 ∨ j = 20 ∨ j = 26 ∨ j = 35)) : frM I (ev_up J k j v) := by
  refine ⟨fun a ha => ?_, fun i hi => ?_⟩
  · rw [u_cf (show a ≠ k from fun z => ha (by rw [z]; exact h))]; exact hf.1 a ha
  · rw [u_no (show ¬ (139 = k ∧ i = j) from fun z => h1 z.1.symm (by rw [← z.2]; exact hi))]; exact hf.2 i hi
section IV
variable {I I' : Nat → Nat → Int32} {L L' : Nat → Nat → Int64} {A : aP}
theorem bkD.fr {W : Nat} {len : Nat → Nat} {lt : Nat → Nat → Nat} (hB : bkD I W len lt) (h : ∀ a, (a = 5 ∨ (7 ≤ a ∧ a < 17)) → I' a = I a) : bkD I' W len lt := by
  unfold bkD bkC
  obtain ⟨⟨h1, h2, h3⟩, h4⟩ := hB
  refine ⟨⟨by rw [h 5 (by omega)]; exact h1, h2, fun w hw => ?_⟩, fun w hw => by rw [h 16 (by omega)]; exact h4 w hw⟩
  rw [h 15 (by omega), h (7 + w) (by omega)]
  exact h3 w hw
theorem cSt.fr {c : Nat} {s : Nat → Int32} (hS : cSt c I s) (h : ∀ a, c ≤ a → a ≤ c + 3 → I' a = I a) : cSt c I' s := by
  unfold cSt
  rw [h c (by omega) (by omega), h (c + 1) (by omega) (by omega), h (c + 2) (by omega) (by omega), h (c + 3) (by omega) (by omega)]
  exact hS
theorem uC.fr {b : Nat} {U : Nat → Nat → Int32} (hU : uC I b U) (h : ∀ a, (a = 25 ∨ (29 ≤ a ∧ a < 89)) → I' a = I a) : uC I' b U := by
  obtain ⟨a, h1, h2, h3, h4, h5⟩ := hU
  refine ⟨a, h1, by rw [h 25 (by omega)]; exact h2, by rw [h 25 (by omega)]; exact h3, h4, fun i hi => ?_⟩
  have hm : (a + 15 - i) % 15 < 15 := Nat.mod_lt _ (by omega)
  exact (h5 i hi).fr (fun k h6 h7 => h k (by omega))
theorem kC.fr {kp : Nat → Bool} {K : Nat → Nat → Int32} (hK : kC I kp K) (h : ∀ a, (a = 28 ∨ (89 ≤ a ∧ a < 101)) → I' a = I a) : kC I' kp K := by
  intro i hi
  obtain ⟨h1, h2⟩ := hK i hi
  exact ⟨by rw [h 28 (by omega)]; exact h1, fun z => (h2 z).fr (fun k h6 h7 => h k (by omega))⟩
theorem ntC.fr {t : Nat × (Nat → Nat) × (Nat → Nat) × (Nat → Bool)} (hN : ntC I t) (h : ∀ a, 129 ≤ a → a ≤ 132 → I' a = I a) : ntC I' t := by
  unfold ntC
  rw [h 129 (by omega) (by omega), h 130 (by omega) (by omega), h 131 (by omega) (by omega), h 132 (by omega) (by omega)]
  exact hN
theorem ntM.fr {t : Nat × (Nat → Nat) × (Nat → Nat) × (Nat → Bool)} (hN : ntM I t) (h0 : I' 139 35 = I 139 35) (h : ∀ a, 162 ≤ a → a ≤ 164 → I' a = I a) : ntM I' t := by
  unfold ntM
  rw [h0, h 162 (by omega) (by omega), h 163 (by omega) (by omega), h 164 (by omega) (by omega)]
  exact hN
/-- a question: what the class's side holds behind it -/
theorem invC.q (hi : invC I L A) (hf : frC I I') {t : Nat × (Nat → Int64)} (hr : rwC I' L' t) : invC I' L' (sRw A t) := by
  obtain ⟨h1, h2, h3, h4, h5, h6, h7, h8, h9⟩ := hi
  have fr : ∀ a, ¬ scC a → I' a = I a := hf.1
  refine ⟨?_, hr, h3.fr (fun a ha => fr a (by unfold scC; omega)), h4.fr (fun a h6 h7 => fr a (by unfold scC; omega)), ?_, h6.fr (fun a ha => fr a (by unfold scC; omega)), h7.fr (fun a ha => fr a (by unfold scC; omega)), h8.fr (fun a h6 h7 => fr a (by unfold scC; omega)), fun w hw => (hf.2.2 w hw).trans (h9 w hw)⟩
  · show txC I' (aTx A)
    unfold txC
    rw [fr 1 (by unfold scC; omega), fr 2 (by unfold scC; omega)]
    exact h1
  · exact ⟨hf.2.1.trans h5.1, fun j hj => by rw [fr 102 (by unfold scC; omega)]; exact h5.2 j hj⟩
theorem mSt.fr {k b : Nat} {s : Nat → Int32} (hS : mSt k b I s) (h : I' k = I k) : mSt k b I' s := by
  unfold mSt
  rw [h]
  exact hS
theorem invM.q (hi : invM I L A) (hf : frM I I') {t : Nat × (Nat → Int64)} (hr : rwM I' L' t) : invM I' L' (sRw A t) := by
  obtain ⟨h1, h2, h3, h4, h5, h6, ⟨ch, h7, h8⟩, h9⟩ := hi
  have fr : ∀ a, ¬ scM a → I' a = I a := hf.1
  have f9 := hf.2
  refine ⟨?_, hr, ?_, h4.fr (fr 143 (by unfold scM; omega)), ?_, ⟨(f9 26 (by omega)).trans h6.1, h6.2.1, fun i hi => (h6.2.2 i hi).fr (fr 155 (by unfold scM; omega))⟩, ⟨ch, h7, (f9 4 (by omega)).trans h8.1, fun i hi => ?_⟩, h9.fr (f9 35 (by omega)) (fun a h6 h7 => fr a (by unfold scM; omega))⟩
  · show txM I' (aTx A)
    unfold txM
    rw [f9 10 (by omega), fr 145 (by unfold scM; omega)]
    exact h1
  · show bkM I' _ _ _
    unfold bkM
    rw [f9 3 (by omega), fr 142 (by unfold scM; omega), fr 141 (by unfold scM; omega)]
    exact h3
  · show rlM2 I' _ _
    unfold rlM2 rlM
    rw [f9 20 (by omega), fr 149 (by unfold scM; omega)]
    exact h5
  · obtain ⟨q, kc, k1, k2, k3, k4, k5⟩ := h8.2 i hi
    exact ⟨q, kc, by rw [fr 171 (by unfold scM; omega)]; exact k1, by rw [fr 172 (by unfold scM; omega)]; exact k2, k3, k4, fun z => (k5 z).fr (fr 173 (by unfold scM; omega))⟩
/-- the class's cells aren't touched by the reference, and the other way round -/
theorem invC.rest (hi : invC I L A) (hf : ∀ a, a < 139 → I' a = I a) (hL : L' 4 = L 4) : invC I' L' A := by
  obtain ⟨h1, h2, h3, h4, h5, h6, h7, h8, h9⟩ := hi
  refine ⟨?_, ?_, h3.fr (fun a ha => hf a (by omega)), h4.fr (fun a h6 h7 => hf a (by omega)), ?_, h6.fr (fun a ha => hf a (by omega)), h7.fr (fun a ha => hf a (by omega)), h8.fr (fun a h6 h7 => hf a (by omega)), fun w hw => by rw [hf 127 (by omega)]; exact h9 w hw⟩
  · unfold txC; rw [hf 1 (by omega), hf 2 (by omega)]; exact h1
  · unfold rwC; rw [hf 3 (by omega), hL]; exact h2
  · unfold rlC; rw [hf 101 (by omega), hf 102 (by omega)]; exact h5
theorem invM.rest (hi : invM I L A) (hf : ∀ a, 139 ≤ a → I' a = I a) (hL : L' 140 = L 140) : invM I' L' A := by
  obtain ⟨h1, h2, h3, h4, h5, h6, ⟨ch, h7, h8⟩, h9⟩ := hi
  refine ⟨?_, ?_, ?_, h4.fr (hf 143 (by omega)), ?_, ⟨by rw [hf 139 (by omega)]; exact h6.1, h6.2.1, fun i hi => (h6.2.2 i hi).fr (hf 155 (by omega))⟩, ⟨ch, h7, by rw [hf 139 (by omega)]; exact h8.1, fun i hi => ?_⟩, h9.fr (by rw [hf 139 (by omega)]) (fun a h6 h7 => hf a (by omega))⟩
  · unfold txM; rw [hf 139 (by omega), hf 145 (by omega)]; exact h1
  · unfold rwM; rw [hf 139 (by omega), hL]; exact h2
  · unfold bkM; rw [hf 139 (by omega), hf 142 (by omega), hf 141 (by omega)]; exact h3
  · unfold rlM2 rlM; rw [hf 139 (by omega), hf 149 (by omega)]; exact h5
  · obtain ⟨q, kc, k1, k2, k3, k4, k5⟩ := h8.2 i hi
    exact ⟨q, kc, by rw [hf 171 (by omega)]; exact k1, by rw [hf 172 (by omega)]; exact k2, k3, k4, fun z => (k5 z).fr (hf 173 (by omega))⟩
theorem frC.hi (hf : frC I I') : ∀ a, 139 ≤ a → I' a = I a := fun a ha => hf.1 a (by unfold scC; omega)
theorem frM.lo (hf : frM I I') : ∀ a, a < 139 → I' a = I a := fun a ha => hf.1 a (by unfold scM; omega)
end IV
/-- a call: both answer alike, and all holds again -/
def okI (h : Bool × Nat × Nat) (d : Nat) (Mc Mm : ev_Me) (as : List Value) (I : Nat → Nat → Int32) (L : Nat → Nat → Int64) : Prop := ∃ v I1 L1 I2 L2, ev_do (d + 100) Mc (.ref 0 :: as) (ev_mk h I L) = ev_ri v (ev_mk h I1 L1) ∧ ev_do (d + 100) Mm (.ref 139 :: as) (ev_mk h I1 L1) = ev_ri v (ev_mk h I2 L2) ∧ inv I2 L2
/-- the two halves of a call, each over a picture A that becomes A' -/
def hfC (h : Bool × Nat × Nat) (d : Nat) (Mc : ev_Me) (as : List Value) (A A' : aP) (v : Int32) : Prop := ∀ I L, invC I L A → ∃ I1 L1, ev_do (d + 100) Mc (.ref 0 :: as) (ev_mk h I L) = ev_ri v (ev_mk h I1 L1) ∧ invC I1 L1 A' ∧ (∀ a, 139 ≤ a → I1 a = I a) ∧ L1 140 = L 140
def hfM (h : Bool × Nat × Nat) (d : Nat) (Mm : ev_Me) (as : List Value) (A A' : aP) (v : Int32) : Prop := ∀ I L, invM I L A → ∃ I1 L1, ev_do (d + 100) Mm (.ref 139 :: as) (ev_mk h I L) = ev_ri v (ev_mk h I1 L1) ∧ invM I1 L1 A' ∧ (∀ a, a < 139 → I1 a = I a) ∧ L1 4 = L 4
theorem ok_of {h : Bool × Nat × Nat} {d : Nat} {Mc Mm : ev_Me} {as : List Value} (H : ∀ A, wfA A → ∃ v A', wfA A' ∧ hfC h d Mc as A A' v ∧ hfM h d Mm as A A' v) {I : Nat → Nat → Int32} {L : Nat → Nat → Int64} (hi : inv I L) : okI h d Mc Mm as I L := by
  obtain ⟨A, hw, hC, hM⟩ := hi
  obtain ⟨v, A', hw', h1, h2⟩ := H A hw
  obtain ⟨I1, L1, e1, c1, f1, g1⟩ := h1 I L hC
  obtain ⟨I2, L2, e2, c2, f2, g2⟩ := h2 I1 L1 (hM.rest f1 g1)
  exact ⟨v, I1, L1, I2, L2, e1, e2, A', hw', c1.rest f2 g2, c2⟩
