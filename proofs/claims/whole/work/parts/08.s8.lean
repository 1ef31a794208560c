/-- all that the tables owe -/
def ev_T : Prop := ev_TF ∧ ev_TC ∧ ev_TK ∧ ev_TN ∧ ev_TX ∧ ev_TA ∧ ev_TM
section EVTOP
variable {p : Program} {l : Launch} {e : Env} {R : Room} {s : State} {m : MethodId} {args : Array Value} {below : List Frame} {meth : Method} {c : Code} {g : ev_G} {sd : Bool} {d : Nat} {M : ev_Me} {σ0 : ev_S} {r : ev_R}
set_option maxHeartbeats 4000000 in
theorem ev_exe_ok (hT : ev_T) (hl0 : l.stackTraces = false) (hrows : ev_rows M) (hA : ev_At p g M s m args meth c) {i : Instr} {pc : Nat} {ls st : List Value} {σ : ev_S} {d' : Nat} (hd : d = d' + 1) {cf : ev_Me → List Value → ev_S → Option ev_R} (hcf : ∀ Mc args σ r', cf Mc args σ = some r' → ev_MOk Mc → ev_Met l g d' Mc args σ r' ∧ ev_le sd σ r'.2) (hdg : decode M.2.1 pc = .ok (i, ev_len pc i)) (hj : ev_jok pc i = true) {K : ev_K} (hK : ∀ pc' ls' st' σ', K pc' ls' st' σ' = some r → ev_P p l e s m args below meth c g sd d M σ0 r pc' ls' st' σ')
    (h : ev_exe sd cf M K i pc ls st σ = some r) : ev_P p l e s m args below meth c g sd d M σ0 r pc ls st σ := by
  obtain ⟨hTF, hTC, hTK, hTN, hTX, hTA, hTM⟩ := hT
  unfold ev_exe at h
  split at h
  · rename_i v n hc
    exact ev_con_ok hA hdg hc (hK _ _ _ _ h)
  split at h
  · rename_i t k n hc
    split at h
    · rename_i v hn
      cases hi : ev_is v t with
      | false => rw [hi] at h; cases h
      | true =>
        rw [hi] at h
        exact ev_loa_ok hA hdg hc hn hi (hK _ _ _ _ h)
    · cases h
  split at h
  · rename_i t k n hc
    split at h
    · rename_i v rest
      cases hi : ev_is v t with
      | false => rw [hi] at h; cases h
      | true =>
        rw [hi] at h
        exact ev_sto_ok hA hdg hc hi hK h
    · cases h
  split at h
  · rename_i f hc
    split at h
    · exact ev_i2_ok hA hdg hc (hK _ _ _ _ h)
    · cases h
  split at h
  · rename_i f hc
    split at h
    · exact ev_i1_ok hA hdg hc (hK _ _ _ _ h)
    · cases h
  split at h
  · rename_i f hc
    split at h
    · exact ev_l2_ok hA hdg hc (hK _ _ _ _ h)
    · cases h
  split at h
  · rename_i f hc
    split at h
    · exact ev_l3_ok hA hdg hc (hK _ _ _ _ h)
    · cases h
  split at h
  · exact ev_inv_ok hTM hTC hA hd hcf hK (fun _ => hdg) (fun z => by cases z) (fun z => by cases z) h
  · exact ev_inv_ok hTM hTC hA hd hcf hK (fun z => by cases z) (fun _ => hdg) (fun z => by cases z) h
  · exact ev_inv_ok hTM hTC hA hd hcf hK (fun z => by cases z) (fun z => by cases z) (fun _ => hdg) h
  · exact ev_rd_ok hTF hTC hTK hA hdg hK h
  · exact ev_rd_ok hTF hTC hTK hA hdg hK h
  · exact ev_rd_ok hTF hTC hTK hA hdg hK h
  · exact ev_rd_ok hTF hTC hTK hA hdg hK h
  · exact ev_rd_ok hTF hTC hTK hA hdg hK h
  · exact ev_rd_ok hTF hTC hTK hA hdg hK h
  · exact ev_rd_ok hTF hTC hTK hA hdg hK h
  · exact ev_rd_ok hTF hTC hTK hA hdg hK h
  · exact ev_rd_ok hTF hTC hTK hA hdg hK h
  · exact ev_rd_ok hTF hTC hTK hA hdg hK h
  · exact ev_rd_ok hTF hTC hTK hA hdg hK h
  · exact ev_put_ok hTF hTC hA hdg hK h
  · exact ev_ast_ok hTC hA (Or.inl rfl) hdg hK h
  · exact ev_ast_ok hTC hA (Or.inr (Or.inl rfl)) hdg hK h
  · exact ev_ast_ok hTC hA (Or.inr (Or.inr (Or.inl rfl))) hdg hK h
  · exact ev_ast_ok hTC hA (Or.inr (Or.inr (Or.inr (Or.inl rfl)))) hdg hK h
  · exact ev_ast_ok hTC hA (Or.inr (Or.inr (Or.inr (Or.inr rfl)))) hdg hK h
  · exact ev_new_ok hl0 hTC hTN hTX hrows hA hdg hK h
  · exact ev_arr_ok hTN hTA hA (Or.inl ⟨_, rfl⟩) hdg hK h
  · exact ev_arr_ok hTN hTA hA (Or.inr (Or.inl ⟨_, rfl⟩)) hdg hK h
  · exact ev_arr_ok hTN hTA hA (Or.inr (Or.inr ⟨_, _, rfl⟩)) hdg hK h
  · exact ev_pl_ok hA hdg hj hK h
theorem ev_set_nth {α : Type} : ∀ {ls : List α} {k i : Nat} {u w : α}, ev_nth (ev_set ls k u) i = some w → (i = k ∧ w = u) ∨ ev_nth ls i = some w
  | [], _, _, _, _, h => by simp [ev_set, ev_nth] at h
  | a :: t, 0, 0, u, w, h => by simp [ev_set, ev_nth] at h; exact Or.inl ⟨rfl, h.symm⟩
  | a :: t, 0, i + 1, u, w, h => Or.inr h
  | a :: t, k + 1, 0, u, w, h => Or.inr h
  | a :: t, k + 1, i + 1, u, w, h => by
    rcases ev_set_nth (ls := t) (k := k) (i := i) h with ⟨e1, e2⟩ | e1
    · exact Or.inl ⟨by omega, e2⟩
    · exact Or.inr e1
theorem ev_set_len {α : Type} : ∀ {ls : List α} {k : Nat} {u : α}, (ev_set ls k u).length = ls.length
  | [], _, _ => rfl
  | _ :: _, 0, _ => rfl
  | _ :: t, k + 1, u => by simp [ev_set, ev_set_len (ls := t) (k := k) (u := u)]
theorem ev_lv.clr {lc : Array Slot} {n : Nat} : ∀ {dead : List Nat} {ls : List Value}, ev_lv g lc n ls → ev_lv g lc n (ev_clr ls dead)
  | [], _, h => h
  | k :: t, ls, h => by
    unfold ev_clr
    refine ev_lv.clr (dead := t) ⟨h.1, ev_set_len.trans h.2.1, h.2.2.1, fun i w hi hw => ?_⟩
    rcases ev_set_nth hi with ⟨-, e2⟩ | e1
    · exact absurd e2 hw
    · exact h.2.2.2 i w e1 hw
theorem ev_P.weak {pc : Nat} {ls ls2 st : List Value} {σ : ev_S} (hw : ∀ lc, ev_lv g lc M.2.2.1 ls → ev_lv g lc M.2.2.1 ls2) (h : ev_P p l e s m args below meth c g sd d M σ0 r pc ls2 st σ) : ev_P p l e s m args below meth c g sd d M σ0 r pc ls st σ := by
  intro h0
  obtain ⟨g1, g2⟩ := h h0
  exact ⟨g1, fun H lc locs hR hl hS => g2 H lc locs hR (hw lc hl) hS⟩
theorem ev_seg_ok (hT : ev_T) (hl0 : l.stackTraces = false) (hrows : ev_rows M) (hA : ev_At p g M s m args meth c) {d' : Nat} (hd : d = d' + 1) {cf : ev_Me → List Value → ev_S → Option ev_R} (hcf : ∀ Mc args σ r', cf Mc args σ = some r' → ev_MOk Mc → ev_Met l g d' Mc args σ r' ∧ ev_le sd σ r'.2) {back : ev_K} (hB : ∀ pc' ls' st' σ', back pc' ls' st' σ' = some r → ev_P p l e s m args below meth c g sd d M σ0 r pc' ls' st' σ') :
    ∀ (k pc : Nat) (ls st : List Value) (σ : ev_S), ev_seg sd cf M back k pc ls st σ = some r → ev_P p l e s m args below meth c g sd d M σ0 r pc ls st σ
  | 0, _, _, _, _, h => by simp [ev_seg] at h
  | k + 1, pc, ls, st, σ, h => by
    simp only [ev_seg] at h
    split at h
    · rename_i i n hlk
      obtain ⟨hdg, hj⟩ := hrows _ _ _ hlk
      refine ev_exe_ok hT hl0 hrows hA hd hcf hdg hj (fun pc' ls' st' σ' h' => ?_) h
      split at h'
      · exact ev_P.weak (fun lc hl => hl.clr) (hB _ _ _ _ h')
      · exact ev_seg_ok hT hl0 hrows hA hd hcf hB k _ _ _ _ h'
    · cases h
theorem ev_run_ok (hT : ev_T) (hl0 : l.stackTraces = false) (hrows : ev_rows M) (hA : ev_At p g M s m args meth c) {d' : Nat} (hd : d = d' + 1) {cf : ev_Me → List Value → ev_S → Option ev_R} (hcf : ∀ Mc args σ r', cf Mc args σ = some r' → ev_MOk Mc → ev_Met l g d' Mc args σ r' ∧ ev_le sd σ r'.2) :
    ∀ (f pc : Nat) (ls st : List Value) (σ : ev_S), ev_run sd cf M f pc ls st σ = some r → ev_P p l e s m args below meth c g sd d M σ0 r pc ls st σ
  | 0, _, _, _, _, h => by simp [ev_run] at h
  | f + 1, pc, ls, st, σ, h => ev_seg_ok hT hl0 hrows hA hd hcf (fun _ _ _ _ h' => ev_run_ok hT hl0 hrows hA hd hcf f _ _ _ _ h') 1000 pc ls st σ h
end EVTOP
theorem ev_ent_args {g : ev_G} (hf : g.2.2.2.2.2.1.category = 1) : ∀ {args : List Value} {n k i : Nat} {v : Value}, ev_words args ≤ n → ev_nth (ev_ent args n) i = some v → v ≠ ev_U → (k + i, ev_uv g v) ∈ lv_args k (args.map (ev_uv g))
  | [], n, k, i, v, _, h, hv => by
    simp only [ev_ent] at h
    exfalso
    have hm := ev_nth_mem h
    rw [List.mem_replicate] at hm
    exact hv hm.2
  | a :: t, n, k, i, v, hw, h, hv => by
    have hc := ev_uv_cat hf a
    have hw' : a.category + ev_words t ≤ n := hw
    rw [List.map_cons, lv_args, hc]
    simp only [ev_ent] at h
    rcases lv_cat a with ha | ha
    · rw [if_neg (by omega)]
      rw [ha] at h
      have h' : ev_nth (a :: ev_ent t (n - 1)) i = some v := h
      match i, h' with
      | 0, h => simp [ev_nth] at h; subst h; exact List.mem_cons_self
      | i + 1, h =>
        have := ev_ent_args hf (k := k + 1) (i := i) (by omega) h hv
        rw [show k + 1 + i = k + (i + 1) by omega] at this
        exact List.mem_cons_of_mem _ this
    · rw [if_pos ha]
      rw [ha] at h
      have h' : ev_nth (a :: ev_U :: ev_ent t (n - 2)) i = some v := h
      match i, h' with
      | 0, h => simp [ev_nth] at h; subst h; exact List.mem_cons_self
      | 1, h => simp [ev_nth] at h; exact absurd h.symm hv
      | i + 2, h =>
        have := ev_ent_args hf (k := k + 2) (i := i) (by omega) h hv
        rw [show k + 2 + i = k + (i + 2) by omega] at this
        exact List.mem_cons_of_mem _ this
theorem ev_ent_len : ∀ {args : List Value} {n : Nat}, ev_words args ≤ n → (ev_ent args n).length = n
  | [], n, _ => by simp [ev_ent]
  | a :: t, n, h => by
    have h' : a.category + ev_words t ≤ n := h
    simp only [ev_ent]
    rcases lv_cat a with ha | ha
    · rw [ha] at h' ⊢
      show (a :: ev_ent t (n - 1)).length = n
      rw [List.length_cons, ev_ent_len (by omega)]; omega
    · rw [ha] at h' ⊢
      show (a :: ev_U :: ev_ent t (n - 2)).length = n
      rw [List.length_cons, List.length_cons, ev_ent_len (by omega)]; omega
theorem ev_sl_len {g : ev_G} (hf : g.2.2.2.2.2.1.category = 1) : ∀ args : List Value, (lg_sl (args.map (ev_uv g))).length = ev_words args
  | [] => rfl
  | a :: t => by
    have hc := ev_uv_cat hf a
    have ih := ev_sl_len hf t
    show (lg_sl (ev_uv g a :: t.map (ev_uv g))).length = a.category + ev_words t
    unfold lg_sl at ih ⊢
    rw [List.flatMap_cons, List.length_append, ih, hc]
    rcases lv_cat a with ha | ha
    · rw [if_neg (by omega), ha]; rfl
    · rw [if_pos ha, ha]; rfl
/-- THE EVALUATOR IS SOUND: what a call answers in it, the machine does -/
theorem ev_call_ok (hT : ev_T) {l : Launch} (hl0 : l.stackTraces = false) {g : ev_G} {sd : Bool} : ∀ (d : Nat) (M : ev_Me) (args : List Value) (σ : ev_S) (r : ev_R), ev_call sd d M args σ = some r → ev_MOk M → ev_Met l g d M args σ r ∧ ev_le sd σ r.2
  | 0, _, _, _, _, h, _ => by simp [ev_call] at h
  | d + 1, M, args, σ, r, h, hOk => by
    simp only [ev_call] at h
    cases hw : Nat.ble (ev_words args) M.2.2.1 with
    | false => rw [hw] at h; cases h
    | true =>
      rw [hw] at h
      have hw' := Nat.le_of_ble_eq_true hw
      obtain ⟨f, hf⟩ := ev_lim_iff.mp h
      have key : ∀ p e s m (a : Array Value) below meth c s₁, BodyLoose p l M.1 (headSpec (ev_wsM M) (ev_rm (d + 1) σ r.2)) M.2.1 M.2.2.1 M.2.2.2.1 e s m a below meth c s₁ → c.maxLocals = M.2.2.1 → (∀ x ∈ c.exceptionTable.toList, False) → ev_Pc g args σ a s → ev_le sd σ r.2 ∧ W p l e (ev_rm (d + 1) σ r.2) s m a below meth c s.heap [] 0 0 (vx_MQ below (ev_Qc g r) (ev_XC g r) a s (ev_c r.2 - ev_c σ) (ev_s r.2 - ev_s σ) (ev_A g)) (entryFrame m a M.2.2.1) := by
        intro p e s m a below meth c s₁ B hml htab hPc
        obtain ⟨rfl, hR, hCx⟩ := hPc
        have hfv := hCx.2.2.2.2.2.2.2.2.2.2
        have hts := atoms_spec (ws := ev_wsM M) B.pre
        have hA : ev_At p g M s m (args.map (ev_uv g)).toArray meth c := ⟨B.exec, B.bytes, hml, B.returns, B.notSynchronized, by rw [← hOk.2.2.2.1]; exact findClass_of_methodNamed B.named, (name_of_methodNamed B.named B.method).1, fun x hx => (htab x hx).elim, fun w hw => hts w (List.mem_cons_of_mem _ hw), hCx, hR.2.2.1, by have := hR.1; omega⟩
        have hP := ev_run_ok (σ0 := σ) (below := below) (e := e) hT hl0 hOk.2.1 hA rfl (fun Mc a2 σ2 r2 h2 ok2 => ev_call_ok hT hl0 d Mc a2 σ2 r2 h2 ok2) f 0 _ _ _ hf
        obtain ⟨g1, g2⟩ := hP ev_le.rf
        refine ⟨g1, ?_⟩
        rw [lg_entry_eq]
        have hl := lv_entry (args.map (ev_uv g)) (n := M.2.2.1) (by rw [ev_sl_len hfv]; exact hw')
        have := g2 s.heap _ [] hR ⟨hl.1, ev_ent_len hw', hl.2.1, fun i v hi hv => hl.2.2 (i, ev_uv g v) (by have := ev_ent_args hfv (k := 0) hw' hi hv; rwa [Nat.zero_add] at this)⟩ va_S.rf
        rw [Nat.sub_self, Nat.sub_self] at this
        exact this
      refine ⟨vx_ofW (cc := M.2.1) (maxL := M.2.2.1) (ret := M.2.2.2.1) hOk.2.2.2.2.1 rfl (fun p e s m a below meth c s₁ B hml htab hPc => (key p e s m a below meth c s₁ B hml htab hPc).2), ev_call_mn (d + 1) M args σ r (by simp only [ev_call]; rw [hw]; exact h)⟩
