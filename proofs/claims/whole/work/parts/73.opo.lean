/-! Calls: next. -/
def updB (o : Option (Nat × Nat × Nat)) (v a b : Nat) : Option (Nat × Nat × Nat) := match o with
  | none => some (v, a, b)
  | some q => if v < q.1 then some (v, a, b) else some q
def blI (g : Nat → Nat → Nat) (o : Option (Nat × Nat × Nat)) (a : Nat) : Nat → Option (Nat × Nat × Nat)
  | 0 => o
  | m + 1 => updB (blI g o a m) (g a (a + 1 + m)) a (a + 1 + m)
def blO (g : Nat → Nat → Nat) (W : Nat) : Nat → Option (Nat × Nat × Nat)
  | 0 => none
  | a + 1 => blI g (blO g W a) a (W - (a + 1))
def lst (c : Nat) (o : Option (Nat × Nat × Nat)) : Nat := match o with
  | none => c
  | some q => q.1
def rwO (A : aP) (o : Option (Nat × Nat × Nat)) : Nat × (Nat → Int64) := match o with
  | none => aRw A
  | some q => snoc (snoc nil0 (nI q.2.1).toInt64) (nI q.2.2).toInt64
theorem lst_upd {c v a b : Nat} {o : Option (Nat × Nat × Nat)} (hv : v < c) : lst c (updB o v a b) = if v < lst c o then v else lst c o := by
  cases o with
  | none => show v = if v < c then v else c; rw [if_pos hv]
  | some q =>
    show lst c (if v < q.1 then some (v, a, b) else some q) = if v < q.1 then v else q.1
    by_cases e : v < q.1
    · rw [if_pos e, if_pos e]; rfl
    · rw [if_neg e, if_neg e]; rfl
theorem upd_t {c v a b : Nat} {o : Option (Nat × Nat × Nat)} (hv : v < c) (h : v < lst c o) : updB o v a b = some (v, a, b) := by
  cases o with
  | none => rfl
  | some q => exact if_pos h
theorem upd_f {c v a b : Nat} {o : Option (Nat × Nat × Nat)} (hv : v < c) (h : ¬ v < lst c o) : updB o v a b = o := by
  cases o with
  | none => exact absurd hv h
  | some q => exact if_neg h
def bndO (n : Nat) (o : Option (Nat × Nat × Nat)) : Prop := ∀ q, o = some q → q.1 ≤ n
theorem bnd_upd {n v a b : Nat} {o : Option (Nat × Nat × Nat)} (hv : v ≤ n) (h : bndO n o) : bndO n (updB o v a b) := by
  intro q hq
  cases o with
  | none => cases hq; exact hv
  | some r =>
    have hq' : (if v < r.1 then some (v, a, b) else some r) = some q := hq
    split at hq'
    · cases hq'; exact hv
    · cases hq'; exact h _ rfl
theorem bnd_I {g : Nat → Nat → Nat} {n : Nat} {o : Option (Nat × Nat × Nat)} (hg : ∀ a b, g a b ≤ n) (h : bndO n o) (a : Nat) : ∀ m, bndO n (blI g o a m)
  | 0 => h
  | m + 1 => bnd_upd (hg _ _) (bnd_I hg h a m)
theorem bnd_O {g : Nat → Nat → Nat} {n W : Nat} (hg : ∀ a b, g a b ≤ n) : ∀ a, bndO n (blO g W a)
  | 0 => fun q hq => by cases hq
  | a + 1 => bnd_I hg (bnd_O hg a) a _
theorem upd_some (o : Option (Nat × Nat × Nat)) (v a b : Nat) : ∃ q, updB o v a b = some q := by
  cases o with
  | none => exact ⟨_, rfl⟩
  | some r =>
    show ∃ q, (if v < r.1 then some (v, a, b) else some r) = some q
    split
    · exact ⟨_, rfl⟩
    · exact ⟨_, rfl⟩
theorem I_some {g : Nat → Nat → Nat} {o : Option (Nat × Nat × Nat)} (ho : ∃ q, o = some q) (a : Nat) : ∀ m, ∃ q, blI g o a m = some q
  | 0 => ho
  | m + 1 => upd_some _ _ _ _
theorem O_some {g : Nat → Nat → Nat} {W : Nat} (hW : 2 ≤ W) : ∀ a, ∃ q, blO g W (a + 1) = some q
  | 0 => by
    rw [blO, show W - (0 + 1) = (W - 2) + 1 by omega, blI]
    exact upd_some _ _ _ _
  | a + 1 => I_some (O_some hW a) _ _
theorem O_none {g : Nat → Nat → Nat} {W : Nat} (hW : W < 2) : blO g W W = none := by
  have : W = 0 ∨ W = 1 := by omega
  rcases this with rfl | rfl
  · rfl
  · rfl
section OO
variable {h : Bool × Nat × Nat} {d : Nat} {I J : Nat → Nat → Int32} {L : Nat → Nat → Int64} {A : aP}
theorem q_mx {a n : Nat} (hn : n ≤ 256) (ha : a ≤ n) : (if nI a < nI n - nI a then nI n - nI a else nI a) = nI (max a (n - a)) := by rw [q_sub ha, z_max (by omega) (by omega)]
theorem op_next (hi : inv I L) : okI h d M_SL_next M_Mo_next [] I L := by
  refine ok_q (fun A hw => ?_) hi
  have hW := hw.2.2.1.1
  obtain ⟨S, hS⟩ : ∃ S : Nat → Bool, S = fitS A := ⟨_, rfl⟩
  obtain ⟨n, hn⟩ : ∃ n, n = fb_ct S 256 := ⟨_, rfl⟩
  have hct : n ≤ 256 := by rw [hn]; exact fb_ct_le S 256
  have hpc : ∀ a b, pct A S 256 a b ≤ n := fun a b => by
    rw [hn]
    have : ∀ k, fb_ct (fun st => S st && on A a b st) k ≤ fb_ct S k := by
      intro k
      induction k with
      | zero => exact Nat.le_refl _
      | succ k ih =>
        rw [fb_ct_succ, fb_ct_succ]
        cases hs : S k with
        | false => simpa using ih
        | true => cases on A a b k <;> simp <;> omega
    exact this 256
  obtain ⟨g, hg⟩ : ∃ g : Nat → Nat → Nat, g = fun a b => max (pct A S 256 a b) (n - pct A S 256 a b) := ⟨_, rfl⟩
  have hgk : ∀ a b, g a b = max (pct A S 256 a b) (n - pct A S 256 a b) := fun a b => by rw [hg]
  have hgn : ∀ a b, g a b ≤ n := fun a b => by rw [hgk]; have := hpc a b; omega
  have lC : ∀ (I : Nat → Nat → Int32) (L : Nat → Nat → Int64), invC I L A → ∃ K, ev_do (d + 100) M_SL_next (.ref 0 :: []) (ev_mk h I L) = ev_at (d + 99) M_SL_next 24 [.ref 0, .int (nI (unL A)), .int (nI n), .int (nI 256)] [] (ev_mk h K L) ∧ frC I K ∧ K 3 1 = I 3 1 ∧ pr8 A K (pct A S 256) := by
    intro I L hi
    obtain ⟨I1, e1, x1, f1⟩ := c_fill64 (h := h) (J := I) (x := 0) (L' := L) (d + 98)
    have fr1 : frC I I1 := frC.rf.x x1 (by simp [scC])
    rw [e_SL_next_0, xUl (d + 97) hw hi frC.rf, k_I, k_1, k_2, k_3, e1, k_V, k_1, k_2, k_3, hn]
    refine lpX (F := fun i J => ev_at (d + 99) M_SL_next 24 [.ref 0, .int (nI (unL A)), .int (nI (fb_ct S i)), .int (nI i)] [] (ev_mk h J L)) (fun i J => frC I J ∧ J 3 1 = I 3 1 ∧ pr8 A J (pct A S i)) 256 ?_ (fun J p => ⟨J, rfl, p⟩) 0 (by omega) I1 ⟨fr1, by rw [x1 3 (by simp)], fun a b h3 h4 => f1 _ (by omega)⟩
    intro i J hi' ⟨p1, p2, p3⟩
    have eSi : S i = (sub i (unL A) && agr A i) := by rw [hS]; rfl
    have pn : S i = false → pct A S (i + 1) = pct A S i := fun hs => by
      funext a b
      unfold pct
      rw [fb_ct_succ, hs]; rfl
    rw [e_SL_next_24, if_pos (show nI i < (256 : Int32) from (q_lt (b := 256) (by omega) (by omega)).mpr hi'), show nI i + 1 = nI (i + 1) from q_add i 1, fb_ct_succ]
    cases hs : sub i (unL A) with
    | false =>
      rw [hs, Bool.false_and] at eSi
      refine Or.inl ⟨J, ?_, p1, p2, by rw [pn eSi]; exact p3⟩
      rw [if_neg (fun z => by rw [(z_sub hi').mp z] at hs; cases hs), eSi, if_neg (by decide)]; rfl
    | true =>
      rw [hs, Bool.true_and] at eSi
      obtain ⟨K, g1, g2, g3⟩ := xAg (h := h) (L' := L) (d + 94) hw hi p1 i
      have p3' : pr8 A K (pct A S i) := fun a b h3 h4 => by rw [g3 134 (by simp)]; exact p3 a b h3 h4
      rw [if_pos ((z_sub hi').mpr hs), g1, k_I, k_1, k_2, k_3, eSi]
      cases hag : agr A i with
      | false =>
        rw [hag] at eSi
        refine Or.inl ⟨K, ?_, g2, by rw [g3 3 (by simp)]; exact p2, by rw [pn eSi]; exact p3'⟩
        rw [if_pos (show fl false = 0 from rfl), if_neg (by decide)]; rfl
      | true =>
        rw [hag] at eSi
        obtain ⟨K2, j1, j2, j3, j4⟩ := xCp (h := h) (L' := L) (d + 94) hw hi g2 i p3'
        refine Or.inl ⟨K2, ?_, j2, by rw [j3 3 (by simp), g3 3 (by simp)]; exact p2, fun a b h3 h4 => ?_⟩
        · rw [if_neg (show ¬ fl true = 0 by decide), j1, k_V, k_1, k_2, k_3, if_pos rfl, show nI (fb_ct S i) + 1 = nI (fb_ct S i + 1) from q_add _ 1]
        · rw [j4 a b h3 h4]
          unfold pct
          rw [fb_ct_succ, eSi, Bool.true_and]
  have lM : ∀ (I : Nat → Nat → Int32) (L : Nat → Nat → Int64), invM I L A → ∃ K, ev_do (d + 100) M_Mo_next (.ref 139 :: []) (ev_mk h I L) = ev_at (d + 99) M_Mo_next 51 [.ref 139, .int (nI n), .int 1000000, .int 0, .float 0, .float 0, .float 0] [] (ev_mk h K L) ∧ frM I K ∧ K 139 1 = I 139 1 ∧ ∀ k, k < 256 → K 165 k = fl (S k) := by
    intro I L hi
    rw [e_Mo_next_0, hn]
    refine lpX (F := fun i J => ev_at (d + 99) M_Mo_next 9 [.ref 139, .int (nI (fb_ct S i)), .int (nI i), .float 0, .float 0, .float 0, .float 0] [] (ev_mk h J L)) (fun i J => frM I J ∧ J 139 1 = I 139 1 ∧ ∀ k, k < i → J 165 k = fl (S k)) 256 ?_ ?_ 0 (by omega) _ ⟨frM.t0, u_j (by omega), fun k hk => by omega⟩
    · intro i J hi' ⟨p1, p2, p3⟩
      obtain ⟨K, g1, g2, g3⟩ := xAn (h := h) (L' := L) (d + 95) hw hi p1 hi'
      have hnar : vp_nar .boolean (fl (S i)) = fl (S i) := by cases S i <;> rfl
      refine Or.inl ⟨ev_up K 165 i (fl (S i)), ?_, g2.up (by unfold scM; omega) (by omega), by rw [u_c (by omega), g3 139 (by simp)]; exact p2, fun k hk => ?_⟩
      · rw [e_Mo_next_9, if_pos (show nI i < (256 : Int32) from (q_lt (b := 256) (by omega) (by omega)).mpr hi'), g1, k_I, k_1, k_2, k_3, q_in (by omega), if_pos (by simp <;> omega), if_pos (by simp <;> omega), q_cl (by omega), ← hS, hnar, u_at, c_Mo_flag (d + 98), k_I, k_1, k_2, k_3, fb_ct_succ, fl_or, q_add, show nI i + 1 = nI (i + 1) from q_add i 1]
      · by_cases e : k = i
        · rw [e, u_at]
        · rw [u_j e, g3 165 (by simp)]; exact p3 k (by omega)
    · intro J ⟨p1, p2, p3⟩
      refine ⟨J, ?_, p1, p2, p3⟩
      rw [e_Mo_next_9, if_neg (by decide)]
  by_cases hz : n = 0 ∨ (aBk A).1 < 2
  · refine ⟨-2, aRw A, hw.2.1, qC_no (fun I L hi => ?_), qM_no (fun I L hi => ?_)⟩
    · obtain ⟨K, e, f, k, _⟩ := lC I L hi
      refine ⟨K, ?_, f, k⟩
      rw [e, e_SL_next_24, if_neg (by decide), (hi.bk f).1.1]
      by_cases e0 : n = 0
      · rw [if_pos (by rw [e0]; rfl)]
      · rw [if_neg (show ¬ nI n = 0 from fun z => e0 ((q_eq (b := 0) (by omega) (by omega)).mp z)), if_pos (show nI (aBk A).1 < (2 : Int32) from (q_lt (b := 2) (by omega) (by omega)).mpr (by omega))]
    · obtain ⟨K, e, f, k, _⟩ := lM I L hi
      refine ⟨K, ?_, f, k⟩
      have e186 : ev_at (d + 99) M_Mo_next 186 [.float 0, .float 0, .int 1000000, .float 0, .float 0, .float 0, .float 0] [] (ev_mk h K L) = ev_ri (-2) (ev_mk h K L) := by rw [e_Mo_next_186, if_pos rfl]
      rw [e, e_Mo_next_51, (hi.bk f).1, e186]
      by_cases e1 : (0 : Int32) < nI (aBk A).1
      · rw [if_pos e1]
        by_cases e0 : n = 0
        · rw [if_neg (by rw [e0]; decide)]
        · have eW : (aBk A).1 = 1 := by
            have := (q_lt (a := 0) (b := (aBk A).1) (by omega) (by omega)).mp e1
            omega
          rw [if_pos (show (0 : Int32) < nI n from (q_lt (a := 0) (by omega) (by omega)).mpr (by omega)), e_Mo_next_68, (hi.bk f).1, eW, if_neg (by decide), e_Mo_next_51, (hi.bk f).1, eW, if_neg (by decide), e186]
      · rw [if_neg e1]
  · have hn0 : 0 < n := by omega
    have hW2 : 2 ≤ (aBk A).1 := by omega
    obtain ⟨q, hq⟩ : ∃ q, blO g (aBk A).1 (aBk A).1 = some q := by
      have := O_some (g := g) hW2 ((aBk A).1 - 1)
      rwa [show (aBk A).1 - 1 + 1 = (aBk A).1 by omega] at this
    have hbO := bnd_O (g := g) (W := (aBk A).1) hgn
    refine ⟨nI q.1, rwO A (some q), show 2 ≤ 9 by decide, fun I L hi => ?_, fun I L hi => ?_⟩
    · obtain ⟨K, e, f, k, c1⟩ := lC I L hi
      rw [e, e_SL_next_24, if_neg (by decide), (hi.bk f).1.1, if_neg (show ¬ nI n = 0 from fun z => absurd ((q_eq (b := 0) (by omega) (by omega)).mp z) (by omega)), if_neg (show ¬ nI (aBk A).1 < (2 : Int32) from fun z => absurd ((q_lt (b := 2) (by omega) (by omega)).mp z) (by omega))]
      have e8 : ∀ a b : Nat, nI a * 8 + nI b = nI (a * 8 + b) := fun a b => by rw [show (8 : Int32) = nI 8 from rfl, q_mul, q_add]
      have goal : ∃ p : sIL, ev_do (d + 99) M_SL_tellBestLook [.ref 0, .int (nI n)] (ev_mk h K L) = ev_ri (nI q.1) (ev_mk h p.1 p.2) ∧ frC I p.1 ∧ rwC p.1 p.2 (rwO A (some q)) ∧ p.2 140 = L 140 := by
        rw [e_SL_tellBestLook_0, show nI n + 1 = nI (n + 1) from q_add n 1]
        refine lpP (σ := sIL) (F := fun a p => ev_at (d + 98) M_SL_tellBestLook 6 [.ref 0, .int (nI n), .int (nI (lst (n + 1) (blO g (aBk A).1 a))), .int (nI a), .float 0, .float 0, .float 0] [] (ev_mk h p.1 p.2)) (G := fun a b p => ev_at (d + 98) M_SL_tellBestLook 22 [.ref 0, .int (nI n), .int (nI (lst (n + 1) (blI g (blO g (aBk A).1 a) a (b - (a + 1))))), .int (nI a), .int (nI b), .float 0, .float 0] [] (ev_mk h p.1 p.2)) (fun a p => (frC I p.1 ∧ p.2 140 = L 140 ∧ pr8 A p.1 (pct A S 256)) ∧ rwC p.1 p.2 (rwO A (blO g (aBk A).1 a))) (fun a b p => (frC I p.1 ∧ p.2 140 = L 140 ∧ pr8 A p.1 (pct A S 256)) ∧ rwC p.1 p.2 (rwO A (blI g (blO g (aBk A).1 a) a (b - (a + 1))))) (fun o => ∃ p : sIL, o = ev_ri (nI q.1) (ev_mk h p.1 p.2) ∧ frC I p.1 ∧ rwC p.1 p.2 (rwO A (some q)) ∧ p.2 140 = L 140) (aBk A).1 ?_ ?_ ?_ ?_ (K, L) ⟨⟨f, rfl, c1⟩, hi.2.1.of k rfl⟩
        · intro a p ha ⟨p1, p2⟩
          refine ⟨p, ?_, p1, ?_⟩
          · rw [e_SL_tellBestLook_6, (hi.bk p1.1).1.1, if_pos ((q_lt (by omega) (by omega)).mpr ha), show nI a + 1 = nI (a + 1) from q_add a 1, Nat.sub_self]; rfl
          · rw [Nat.sub_self]; exact p2
        · intro a b p hab hb ⟨p1, p2⟩
          have hpab := hpc a b
          have hmx : max (pct A S 256 a b) (n - pct A S 256 a b) = g a b := (hgk a b).symm
          have hgab := hgn a b
          have hbI := bnd_I (g := g) hgn (hbO a) a (b - (a + 1))
          have eI : blI g (blO g (aBk A).1 a) a (b + 1 - (a + 1)) = updB (blI g (blO g (aBk A).1 a) a (b - (a + 1))) (g a b) a b := by
            rw [show b + 1 - (a + 1) = (b - (a + 1)) + 1 by omega, blI, show a + 1 + (b - (a + 1)) = b by omega]
          have hl : lst (n + 1) (blI g (blO g (aBk A).1 a) a (b - (a + 1))) ≤ n + 1 := by
            cases ho : blI g (blO g (aBk A).1 a) a (b - (a + 1)) with
            | none => exact Nat.le_refl _
            | some r => have := hbI r ho; show r.1 ≤ n + 1; omega
          rw [eI, e_SL_tellBestLook_22, (hi.bk p1.1).1.1, if_pos ((q_lt (by omega) (by omega)).mpr hb), e8, q_in (by omega), if_pos (by simp <;> omega), q_cl (by omega), p1.2.2 a b hab hb, q_mx hct hpab, hmx, show nI b + 1 = nI (b + 1) from q_add b 1]
          generalize hoo : blI g (blO g (aBk A).1 a) a (b - (a + 1)) = o at *
          by_cases e : g a b < lst (n + 1) o
          · obtain ⟨K2, L2, j1, j2, j3, j4⟩ := t_two (h := h) (I := p.1) (L := p.2) (x := (nI a).toInt64) (y := (nI b).toInt64) (d + 96)
            refine Or.inl ⟨(K2, L2), ?_, ⟨p1.1.x j2 (by simp [scC]), (j3 140 (by omega)).trans p1.2.1, fun a' b' h3 h4 => by show K2 134 _ = _; rw [j2 134 (by simp)]; exact p1.2.2 a' b' h3 h4⟩, ?_⟩
            · rw [if_pos ((q_lt (by omega) (by omega)).mpr e), j1, k_V, k_1, k_2, k_3, lst_upd (by omega), if_pos e]
            · rw [upd_t (c := n + 1) (by omega) e]; exact j4
          · refine Or.inl ⟨p, ?_, p1, ?_⟩
            · rw [if_neg (fun z => e ((q_lt (by omega) (by omega)).mp z)), lst_upd (by omega), if_neg e]
            · rw [upd_f (c := n + 1) (by omega) e]; exact p2
        · intro a p ha ⟨p1, p2⟩
          refine ⟨p, ?_, p1, p2⟩
          rw [e_SL_tellBestLook_22, (hi.bk p1.1).1.1, if_neg (fun z => absurd ((q_lt (by omega) (by omega)).mp z) (by omega)), show nI a + 1 = nI (a + 1) from q_add a 1]
          rfl
        · intro p ⟨p1, p2⟩
          rw [hq] at p2
          refine ⟨p, ?_, p1.1, p2, p1.2.1⟩
          rw [e_SL_tellBestLook_6, (hi.bk p1.1).1.1, if_neg (fun z => absurd ((q_lt (by omega) (by omega)).mp z) (by omega)), hq]
          rfl
      obtain ⟨p, g1, g2⟩ := goal
      exact ⟨p, by rw [g1, k_I, k_1, k_2, k_3], g2⟩
    · obtain ⟨K, e, f, k, o1⟩ := lM I L hi
      rw [e]
      refine lpP (σ := sIL) (F := fun a p => ev_at (d + 99) M_Mo_next 51 [.ref 139, .int (nI n), .int (nI (lst 1000000 (blO g (aBk A).1 a))), .int (nI a), .float 0, .float 0, .float 0] [] (ev_mk h p.1 p.2)) (G := fun a b p => ev_at (d + 99) M_Mo_next 68 [.ref 139, .int (nI n), .int (nI (lst 1000000 (blI g (blO g (aBk A).1 a) a (b - (a + 1))))), .int (nI a), .int (nI b), .float 0, .float 0] [] (ev_mk h p.1 p.2)) (fun a p => (frM I p.1 ∧ p.2 4 = L 4 ∧ ∀ k, k < 256 → p.1 165 k = fl (S k)) ∧ rwM p.1 p.2 (rwO A (blO g (aBk A).1 a))) (fun a b p => (frM I p.1 ∧ p.2 4 = L 4 ∧ ∀ k, k < 256 → p.1 165 k = fl (S k)) ∧ rwM p.1 p.2 (rwO A (blI g (blO g (aBk A).1 a) a (b - (a + 1))))) (fun o => ∃ p : sIL, o = ev_ri (nI q.1) (ev_mk h p.1 p.2) ∧ frM I p.1 ∧ rwM p.1 p.2 (rwO A (some q)) ∧ p.2 4 = L 4) (aBk A).1 ?_ ?_ ?_ ?_ (K, L) ⟨⟨f, rfl, o1⟩, hi.2.1.of k rfl⟩
      · intro a p ha ⟨p1, p2⟩
        refine ⟨p, ?_, p1, ?_⟩
        · rw [e_Mo_next_51, (hi.bk p1.1).1, if_pos ((q_lt (by omega) (by omega)).mpr ha), if_pos (show (0 : Int32) < nI n from (q_lt (a := 0) (by omega) (by omega)).mpr hn0), show nI a + 1 = nI (a + 1) from q_add a 1, Nat.sub_self]; rfl
        · rw [Nat.sub_self]; exact p2
      · intro a b p hab hb ⟨p1, p2⟩
        have hpab := hpc a b
        have hmx : max (pct A S 256 a b) (n - pct A S 256 a b) = g a b := (hgk a b).symm
        have hgab := hgn a b
        have hbI := bnd_I (g := g) hgn (hbO a) a (b - (a + 1))
        have eI : blI g (blO g (aBk A).1 a) a (b + 1 - (a + 1)) = updB (blI g (blO g (aBk A).1 a) a (b - (a + 1))) (g a b) a b := by
          rw [show b + 1 - (a + 1) = (b - (a + 1)) + 1 by omega, blI, show a + 1 + (b - (a + 1)) = b by omega]
        have hl : lst 1000000 (blI g (blO g (aBk A).1 a) a (b - (a + 1))) ≤ 1000000 := by
          cases ho : blI g (blO g (aBk A).1 a) a (b - (a + 1)) with
          | none => exact Nat.le_refl _
          | some r => have := hbI r ho; show r.1 ≤ 1000000; omega
        generalize hoo : blI g (blO g (aBk A).1 a) a (b - (a + 1)) = o at *
        have inn : ∃ K2, ev_at (d + 99) M_Mo_next 83 [.ref 139, .int (nI n), .int (nI (lst 1000000 o)), .int (nI a), .int (nI b), .int (nI (pct A S 0 a b)), .int (nI 0)] [] (ev_mk h p.1 p.2) = ev_at (d + 99) M_Mo_next 83 [.ref 139, .int (nI n), .int (nI (lst 1000000 o)), .int (nI a), .int (nI b), .int (nI (pct A S 256 a b)), .int (nI 256)] [] (ev_mk h K2 p.2) ∧ frM I K2 ∧ exc [153, 154] p.1 K2 := by
          refine lpX (F := fun i K2 => ev_at (d + 99) M_Mo_next 83 [.ref 139, .int (nI n), .int (nI (lst 1000000 o)), .int (nI a), .int (nI b), .int (nI (pct A S i a b)), .int (nI i)] [] (ev_mk h K2 p.2)) (fun i K2 => frM I K2 ∧ exc [153, 154] p.1 K2) 256 ?_ (fun K2 q1 => ⟨K2, rfl, q1⟩) 0 (by omega) p.1 ⟨p1.1, exc.rf⟩
          intro i K2 hi' ⟨q1, q2⟩
          have e124 : ∀ (z : Bool) (K3 : Nat → Nat → Int32), ev_at (d + 99) M_Mo_next 124 [.ref 139, .int (nI n), .int (nI (lst 1000000 o)), .int (nI a), .int (nI b), .float 0, .int (nI i)] [.int (fl z), .int (nI (pct A S i a b))] (ev_mk h K3 p.2) = ev_at (d + 99) M_Mo_next 83 [.ref 139, .int (nI n), .int (nI (lst 1000000 o)), .int (nI a), .int (nI b), .int (nI (pct A S i a b + if z then 1 else 0)), .int (nI (i + 1))] [] (ev_mk h K3 p.2) := by
            intro z K3
            rw [e_Mo_next_124, c_Mo_flag (d + 98), k_I, k_1, k_2, k_3, fl_or, q_add, show nI i + 1 = nI (i + 1) from q_add i 1]
          have eP : pct A S (i + 1) a b = pct A S i a b + if S i && on A a b i then 1 else 0 := fb_ct_succ _ _
          have q165 : K2 165 i = fl (S i) := by rw [q2 165 (by simp)]; exact p1.2.2 i hi'
          rw [e_Mo_next_83, if_pos (show nI i < (256 : Int32) from (q_lt (b := 256) (by omega) (by omega)).mpr hi'), q_in (by omega), if_pos (by simp <;> omega), q_cl (by omega), q165, eP]
          cases hs : S i with
          | false =>
            refine Or.inl ⟨K2, ?_, q1, q2⟩
            rw [if_pos (show fl false = 0 from rfl), Bool.false_and]
            exact e124 false K2
          | true =>
            obtain ⟨K3, j1, j2, j3⟩ := xOne (h := h) (L' := p.2) (d + 96) hw hi q1 (show a < (aBk A).1 by omega) hb i
            refine Or.inl ⟨K3, ?_, j2, q2.tr j3⟩
            rw [if_neg (show ¬ fl true = 0 by decide), j1, k_I, k_1, k_2, k_3, Bool.true_and]
            cases on A a b i with
            | true => rw [if_neg (show ¬ fl true = 0 by decide)]; exact e124 true K3
            | false => rw [if_pos (show fl false = 0 from rfl)]; exact e124 false K3
        obtain ⟨K2, i1, i2, i3⟩ := inn
        have r1 : rwM K2 p.2 (rwO A o) := p2.of (by rw [i3 139 (by simp)]) rfl
        have s1 : ∀ k, k < 256 → K2 165 k = fl (S k) := fun k hk => by rw [i3 165 (by simp)]; exact p1.2.2 k hk
        rw [eI, e_Mo_next_68, (hi.bk p1.1).1, if_pos ((q_lt (by omega) (by omega)).mpr hb)]
        have i1' : ev_at (d + 99) M_Mo_next 83 [.ref 139, .int (nI n), .int (nI (lst 1000000 o)), .int (nI a), .int (nI b), .int 0, .int 0] [] (ev_mk h p.1 p.2) = _ := i1
        rw [i1', e_Mo_next_83, if_neg (by decide), q_mx hct hpab, hmx, show nI b + 1 = nI (b + 1) from q_add b 1]
        by_cases e : g a b < lst 1000000 o
        · obtain ⟨K3, L3, e3, x3, n3, l3, r3⟩ := t_enters (h := h) (x := (nI a).toInt64) (d + 98) (rwM.nil (I := K2) (L := p.2)) (show 0 < 24 by decide)
          obtain ⟨K4, L4, e4, x4, n4, l4, r4⟩ := t_enters (h := h) (x := (nI b).toInt64) (d + 98) r3 (show 1 < 24 by decide)
          refine Or.inl ⟨(K4, L4), ?_, ⟨((i2.t1 _).e x3 n3).e x4 n4, ((l4 4 (by omega)).trans (l3 4 (by omega))).trans p1.2.1, fun k hk => by show K4 165 k = _; rw [x4 165 (by simp), x3 165 (by simp), u_c (by omega)]; exact s1 k hk⟩, ?_⟩
          · rw [if_pos ((q_lt (by omega) (by omega)).mpr e), e3, k_V, k_1, k_2, k_3, e4, k_V, k_1, k_2, k_3, lst_upd (by omega), if_pos e]
          · rw [upd_t (c := 1000000) (by omega) e]; exact r4
        · refine Or.inl ⟨(K2, p.2), ?_, ⟨i2, p1.2.1, s1⟩, ?_⟩
          · rw [if_neg (fun z => e ((q_lt (by omega) (by omega)).mp z)), lst_upd (by omega), if_neg e]
          · rw [upd_f (c := 1000000) (by omega) e]; exact r1
      · intro a p ha ⟨p1, p2⟩
        refine ⟨p, ?_, p1, p2⟩
        rw [e_Mo_next_68, (hi.bk p1.1).1, if_neg (fun z => absurd ((q_lt (by omega) (by omega)).mp z) (by omega)), show nI a + 1 = nI (a + 1) from q_add a 1]
        rfl
      · intro p ⟨p1, p2⟩
        have hqn := hbO (aBk A).1 q hq
        rw [hq] at p2
        refine ⟨p, ?_, p1.1, p2, p1.2.1⟩
        rw [e_Mo_next_51, (hi.bk p1.1).1, if_neg (fun z => absurd ((q_lt (by omega) (by omega)).mp z) (by omega)), hq, e_Mo_next_186, show lst 1000000 (some q) = q.1 from rfl, if_neg (show ¬ nI q.1 = (1000000 : Int32) from fun z => absurd ((q_eq (b := 1000000) (by omega) (by omega)).mp z) (by omega))]
end OO
