/-! The store once all is made: the references stand. -/
def ev_R0 : Nat → Nat → Option Nat := fun k j => ev_lk ((ev_nth ev_refL k).getD []) j
def ev_mk (h : Bool × Nat × Nat) (I : Nat → Nat → Int32) (L : Nat → Nat → Int64) : ev_S := ((ev_N0, h), I, L, ev_R0)
/-- a place of a method, a call of it, in such a store -/
noncomputable abbrev ev_at (d : Nat) (M : ev_Me) (pc : Nat) (ls st : List Value) (σ : ev_S) : Option ev_R := ev_lim true (ev_call true d) M pc ls st σ
noncomputable abbrev ev_do (d : Nat) (M : ev_Me) (args : List Value) (σ : ev_S) : Option ev_R := ev_call true d M args σ
def ev_ri (x : Int32) (σ : ev_S) : Option ev_R := some (some (some (.int x)), σ)
def ev_rl (x : Int64) (σ : ev_S) : Option ev_R := some (some (some (.long x)), σ)
def ev_rn (σ : ev_S) : Option ev_R := some (some none, σ)
theorem tst_bare_0 (d : Nat) (w g : Int32) (h : Bool × Nat × Nat) (I : Nat → Nat → Int32) (L : Nat → Nat → Int64) : ev_do (d + 1) M_Book_bare [.ref 5, .int w, .int g] (ev_mk h I L) = ev_at d M_Book_bare 4 [.ref 5, .int w, .int g, .int 0, .int 0] [] (ev_mk h I L) :=
  (ev_eq true (ev_call true d) M_Book_bare 0 [.ref 5, .int w, .int g, .float 0, .float 0] [] (ev_mk h I L)).trans rfl
