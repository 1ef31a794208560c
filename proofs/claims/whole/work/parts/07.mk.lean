/-! The store once all is made: the references stand. -/
def ev_R0 : Nat → Nat → Option Nat := fun k j => ev_lk ((ev_nth ev_refL k).getD []) j
def ev_mk (h : Bool × Nat × Nat) (I : Nat → Nat → Int32) (L : Nat → Nat → Int64) : ev_S := ((ev_N0, h), I, L, ev_R0)
/-- a place of a method, a call of it, in such a store -/
noncomputable abbrev ev_at (d : Nat) (M : ev_Me) (pc : Nat) (ls st : List Value) (σ : ev_S) : Option ev_R := ev_lim true (ev_call true d) M pc ls st σ
noncomputable abbrev ev_do (d : Nat) (M : ev_Me) (args : List Value) (σ : ev_S) : Option ev_R := ev_call true d M args σ
def ev_ri (x : Int32) (σ : ev_S) : Option ev_R := some (some (some (.int x)), σ)
def ev_rl (x : Int64) (σ : ev_S) : Option ev_R := some (some (some (.long x)), σ)
def ev_rn (σ : ev_S) : Option ev_R := some (some none, σ)
