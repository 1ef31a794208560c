/-! THE EVALUATOR: bytecode over a store of cells. A value's reference is a cell's number: cells 0, 1, .. as they are made; 900000 + 2 i a text constant, 900001 + 2 i its bytes; '.retAddr 0' what a static holds that nobody looks into. -/
/-- (how many cells there are, whether that is the heap's end, cells and slots that were made), ints, longs, references, by cell and place -/
abbrev ev_S : Type := (Nat × Bool × Nat × Nat) × (Nat → Nat → Int32) × (Nat → Nat → Int64) × (Nat → Nat → Option Nat)
/-- how a call ends: 'some v' it returned v, 'none' it threw; and the store -/
abbrev ev_R : Type := Option (Option Value) × ev_S
abbrev ev_K : Type := Nat → List Value → List Value → ev_S → Option ev_R
def ev_lk {α : Type} : List (Nat × α) → Nat → Option α
  | [], _ => none
  | (k, v) :: t, n => bif Nat.beq k n then some v else ev_lk t n
def ev_nth {α : Type} : List α → Nat → Option α
  | [], _ => none
  | v :: _, 0 => some v
  | _ :: t, n + 1 => ev_nth t n
def ev_set {α : Type} : List α → Nat → α → List α
  | [], _, _ => []
  | _ :: t, 0, v => v :: t
  | a :: t, n + 1, v => a :: ev_set t n v
def ev_has : List Nat → Nat → Bool
  | [], _ => false
  | k :: t, n => bif Nat.beq k n then true else ev_has t n
def ev_clr (ls : List Value) : List Nat → List Value
  | [] => ls
  | k :: t => ev_clr (ev_set ls k (.float 0)) t
def ev_up {α : Type} (f : Nat → Nat → α) (k j : Nat) (v : α) : Nat → Nat → α := fun a b => if a = k ∧ b = j then v else f a b
/-- a local that holds nothing that may be read -/
abbrev ev_U : Value := .float 0
/-- an index inside -/
def ev_in (i : Int32) (n : Nat) : Bool := !decide (i < 0) && decide (i.toNatClampNeg < n)
def ev_lay (k : Nat) : Nat × Nat := (ev_nth ev_layL k).getD (99, 0)
/-- what a reference is: as lay has it; (10, i) the text i, (11, i) its bytes -/
def ev_kd (n k : Nat) : Nat × Nat := bif Nat.blt k n then ev_lay k else bif Nat.ble 900000 k && Nat.blt k (900000 + 2 * ev_strs.length) then (10 + k % 2, (k - 900000) / 2) else (99, 0)
def ev_cp (f : Nat → Nat → Int32) (ks kd sp dp n : Nat) : Nat → Nat → Int32 := fun a b => if a = kd ∧ (dp ≤ b ∧ b < dp + n) then f ks (sp + (b - dp)) else f a b
def ev_putI (σ : ev_S) (k j : Nat) (v : Int32) : ev_S := (σ.1, ev_up σ.2.1 k j v, σ.2.2)
def ev_putL (σ : ev_S) (k j : Nat) (v : Int64) : ev_S := (σ.1, σ.2.1, ev_up σ.2.2.1 k j v, σ.2.2.2)
def ev_putR (σ : ev_S) (k j : Nat) (v : Option Nat) : ev_S := (σ.1, σ.2.1, σ.2.2.1, ev_up σ.2.2.2 k j v)
/-- one cell more, of n slots, all as new -/
def ev_more (σ : ev_S) (n : Nat) : ev_S := ((σ.1.1 + 1, σ.1.2.1, σ.1.2.2.1 + 1, σ.1.2.2.2 + n), (fun a b => bif Nat.beq a σ.1.1 then 0 else σ.2.1 a b), (fun a b => bif Nat.beq a σ.1.1 then 0 else σ.2.2.1 a b), (fun a b => bif Nat.beq a σ.1.1 then none else σ.2.2.2 a b))
/-- a cells of b slots more, of ints -/
def ev_moreN (b : Nat) : Nat → ev_S → ev_S
  | 0, σ => σ
  | a + 1, σ => ev_more (ev_moreN b a σ) b
def ev_rowsOk (b : Nat) : Nat → Nat → Bool
  | 0, _ => true
  | a + 1, k => (ev_lay k == (1, b)) && ev_rowsOk b a (k + 1)
def ev_rv (r : Option Nat) : Value := match r with
  | some a => .ref a
  | none => .null
/-- the continuations of a call, by what it answers -/
def ev_cI (o : Option ev_R) (k : Int32 → ev_S → Option ev_R) : Option ev_R := match o with
  | some (some (some (.int x)), σ) => k x σ
  | _ => none
def ev_cL (o : Option ev_R) (k : Int64 → ev_S → Option ev_R) : Option ev_R := match o with
  | some (some (some (.long x)), σ) => k x σ
  | _ => none
def ev_cV (o : Option ev_R) (k : ev_S → Option ev_R) : Option ev_R := match o with
  | some (some none, σ) => k σ
  | _ => none
/-- behind a call: where sd, the number of cells and the references are as they were (nothing there can change them) -/
def ev_fx (sd : Bool) (σ σ' : ev_S) : ev_S := bif sd then ((σ.1.1, σ'.1.2), σ'.2.1, σ'.2.2.1, σ.2.2.2) else σ'
/-- constants of an instruction -/
def ev_con : Instr → Option (Value × Nat)
  | .iconst n => some (.int (Int32.ofInt n), 1)
  | .bipush n => bif decide (-128 ≤ n) && decide (n < 128) then some (.int (Int32.ofInt n), 2) else none
  | .sipush n => bif decide (-32768 ≤ n) && decide (n < 32768) then some (.int (Int32.ofInt n), 3) else none
  | .lconst n => some (.long (Int64.ofNat (n : Nat)), 1)
  | _ => none
/-- loads: 0 int, 1 long, 2 reference; the local; the length -/
def ev_loa : Instr → Option (Nat × Nat × Nat)
  | .iload_n k => some (0, k, 1)
  | .iload k => some (0, k, 2)
  | .lload_n k => some (1, k, 1)
  | .lload k => some (1, k, 2)
  | .aload_n k => some (2, k, 1)
  | .aload k => some (2, k, 2)
  | _ => none
def ev_sto : Instr → Option (Nat × Nat × Nat)
  | .istore_n k => some (0, k, 1)
  | .istore k => some (0, k, 2)
  | .lstore_n k => some (1, k, 1)
  | .lstore k => some (1, k, 2)
  | .astore_n k => some (2, k, 1)
  | .astore k => some (2, k, 2)
  | _ => none
def ev_is : Value → Nat → Bool
  | .int _, 0 => true
  | .long _, 1 => true
  | .ref _, 2 => true
  | _, _ => false
/-- the locals behind a store, laid out at once: a long ahead of the place is no more -/
def ev_sk1 : List Value → Nat → Value → (List Value → Option ev_R) → Option ev_R
  | [], _, _, _ => none
  | _ :: t, 0, v, k => k (v :: t)
  | a :: t, 1, v, k => ev_sk1 t 0 v (fun t' => bif Nat.beq a.category 2 then k (ev_U :: t') else k (a :: t'))
  | a :: t, n + 2, v, k => ev_sk1 t (n + 1) v (fun t' => k (a :: t'))
def ev_sk2 : List Value → Nat → Value → (List Value → Option ev_R) → Option ev_R
  | _ :: _ :: t, 0, v, k => k (v :: ev_U :: t)
  | a :: t, 1, v, k => ev_sk2 t 0 v (fun t' => bif Nat.beq a.category 2 then k (ev_U :: t') else k (a :: t'))
  | a :: t, n + 2, v, k => ev_sk2 t (n + 1) v (fun t' => k (a :: t'))
  | _, _, _, _ => none
def ev_i2 : Instr → Option (Int32 → Int32 → Int32)
  | .iadd => some (fun x y => x + y)
  | .isub => some (fun x y => x - y)
  | .imul => some (fun x y => x * y)
  | .iand => some (fun x y => x &&& y)
  | .ior => some (fun x y => x ||| y)
  | .ixor => some (fun x y => x ^^^ y)
  | .ishl => some (fun x y => x <<< (y &&& 31))
  | .ishr => some (fun x y => x >>> (y &&& 31))
  | .iushr => some (fun x y => (x.toUInt32 >>> (y.toUInt32 &&& Int32.toUInt32 31)).toInt32)
  | _ => none
def ev_i1 : Instr → Option (Int32 → Int32)
  | .ineg => some (fun x => -x)
  | .i2b => some (fun x => x.toInt8.toInt32)
  | .i2s => some (fun x => x.toInt16.toInt32)
  | .i2c => some (fun x => (x.toUInt32 % 65536).toInt32)
  | _ => none
def ev_l2 : Instr → Option (Int64 → Int64 → Int64)
  | .ladd => some (fun x y => x + y)
  | .lsub => some (fun x y => x - y)
  | .lmul => some (fun x y => x * y)
  | .land => some (fun x y => x &&& y)
  | .lor => some (fun x y => x ||| y)
  | _ => none
def ev_l3 : Instr → Option (Int64 → Int32 → Int64)
  | .lshl => some (fun x y => x <<< (y.toInt64 &&& 63))
  | .lshr => some (fun x y => x >>> (y.toInt64 &&& 63))
  | _ => none
def ev_go (pc : Nat) (off : Int) : Nat := ((pc : Int) + off).toNat
/-- a value that a field or an answer of this type may hold as it is -/
def ev_fit (ty : FieldType) (x : Int32) : Bool := match ty with
  | .int => true
  | _ => decide (narrow ty (.int x) = .int x)
def ev_tsw (dflt lo hi : Int) (offs : Array Int) (pc : Nat) (x : Int32) (K : Nat → Option ev_R) : Nat → Option ev_R
  | 0 => K (ev_go pc dflt)
  | j + 1 => if x = Int32.ofInt (hi - j) then K (ev_go pc (offs.getD ((hi - j) - lo).toNat 0)) else ev_tsw dflt lo hi offs pc x K j
def ev_lsw (dflt : Int) (pc : Nat) (x : Int32) (K : Nat → Option ev_R) : List (Int × Int) → Option ev_R
  | [] => K (ev_go pc dflt)
  | (a, o) :: t => if x = Int32.ofInt a then K (ev_go pc o) else ev_lsw dflt pc x K t
/-- the rows of a throw: dup, the text, the constructor, athrow -/
def ev_isThrow (M : ev_Me) (pc : Nat) : Bool := Nat.beq M.2.2.2.2.1 ev_thrC.1 && match ev_lk M.2.2.2.2.2.1 (pc + 3) with
  | some (.dup, _) => match ev_lk M.2.2.2.2.2.1 (pc + 4) with
    | some (.ldc is, _) => match ev_lk M.2.2.2.2.2.1 (pc + 6), ev_lk M.2.2.2.2.2.1 (pc + 9) with
      | some (.invokespecial ic, _), some (.athrow, _) => Nat.beq ic ev_thrC.2 && (ev_lk (ev_ks M.2.2.2.2.1) is).isSome
      | _, _ => false
    | some (.ldc_w is, _) => match ev_lk M.2.2.2.2.2.1 (pc + 7), ev_lk M.2.2.2.2.2.1 (pc + 10) with
      | some (.invokespecial ic, _), some (.athrow, _) => Nat.beq ic ev_thrC.2 && (ev_lk (ev_ks M.2.2.2.2.1) is).isSome
      | _, _ => false
    | _ => false
  | _ => false
def ev_hd : List Value → Bool
  | .ref _ :: _ => true
  | _ => false
/-- the receiver is of its class -/
def ev_rc (b : Bool) (n ci : Nat) (args : List Value) (x : Option ev_R) : Option ev_R := bif b then (match args with
  | .ref k :: _ => bif (ev_kd n k == (0, ci)) || (Nat.beq ci 20 && Nat.beq (ev_kd n k).1 10) then x else none
  | _ => none) else x
/-- an int out of a row of ints, into it -/
def ev_aI (σ : ev_S) (v : Value) (x : Int32) (k2 : Int32 → Option ev_R) : Option ev_R := match v with
  | .ref k => match ev_kd σ.1.1 k with
    | (1, n) => if ev_in x n then k2 (σ.2.1 k x.toNatClampNeg) else none
    | _ => none
  | _ => none
def ev_sI (σ : ev_S) (v : Value) (x y : Int32) (k2 : (Nat → Nat → Int32) → Option ev_R) : Option ev_R := match v with
  | .ref k => match ev_kd σ.1.1 k with
    | (1, n) => if ev_in x n then k2 (ev_up σ.2.1 k x.toNatClampNeg y) else none
    | _ => none
  | _ => none
/-- a call: from the method's list of calls -/
def ev_inv (sd : Bool) (cf : ev_Me → List Value → ev_S → Option ev_R) (M : ev_Me) (K : ev_K) (vir spe sta : Bool) (idx pc : Nat) (ls st : List Value) (σ : ev_S) : Option ev_R :=
  match ev_lk (ev_ml M.2.2.2.2.1) idx with
  | none => none
  | some (kind, n, ci, Mc) =>
    bif Nat.beq kind 8 then (bif spe then match st with
      | .ref _ :: r => bif Nat.ble r.length 4 then K (pc + 3) ls r σ else none
      | _ => none else none)
    else bif Nat.beq kind 9 then (bif sta then match st with
      | .int len :: .int dp :: .ref kd :: .int sp :: .ref ks :: r => match ev_kd σ.1.1 ks, ev_kd σ.1.1 kd with
        | (1, n1), (1, n2) => bif Nat.beq ks kd then none else
          if Nat.ble r.length 4 && !decide (sp < 0) && !decide (dp < 0) && !decide (len < 0) && decide (sp.toNatClampNeg + len.toNatClampNeg ≤ n1) && decide (dp.toNatClampNeg + len.toNatClampNeg ≤ n2) then
            K (pc + 3) ls r (σ.1, ev_cp σ.2.1 ks kd sp.toNatClampNeg dp.toNatClampNeg len.toNatClampNeg, σ.2.2)
          else none
        | _, _ => none
      | _ => none else none)
    else bif Nat.beq kind 6 then (bif sta then match st with
      | .int y :: .int x :: r => bif Nat.ble r.length 4 then K (pc + 3) ls (.int (if x < y then y else x) :: r) σ else none
      | _ => none else none)
    else bif Nat.beq kind 7 then (bif sta then match st with
      | .int y :: .int x :: r => bif Nat.ble r.length 4 then K (pc + 3) ls (.int (if y < x then y else x) :: r) σ else none
      | _ => none else none)
    else bif ((Nat.beq kind 0 && vir) || ((Nat.beq kind 1 || Nat.beq kind 3) && spe) || ((Nat.beq kind 2 || Nat.beq kind 4) && sta)) && Nat.ble (st.drop n).length 4 && Nat.ble n st.length && (!(Nat.beq kind 1 || Nat.beq kind 3) || ev_hd (st.take n).reverse) then
      ev_rc (Nat.beq kind 0) σ.1.1 ci (st.take n).reverse (match Mc.2.2.2.1 with
        | none => ev_cV (cf Mc (st.take n).reverse σ) (fun σ' => K (pc + 3) ls (st.drop n) (ev_fx sd σ σ'))
        | some .long => ev_cL (cf Mc (st.take n).reverse σ) (fun x σ' => K (pc + 3) ls (.long x :: st.drop n) (ev_fx sd σ σ'))
        | some .int => ev_cI (cf Mc (st.take n).reverse σ) (fun x σ' => K (pc + 3) ls (.int x :: st.drop n) (ev_fx sd σ σ'))
        | some .boolean => ev_cI (cf Mc (st.take n).reverse σ) (fun x σ' => K (pc + 3) ls (.int x :: st.drop n) (ev_fx sd σ σ'))
        | some .char => ev_cI (cf Mc (st.take n).reverse σ) (fun x σ' => K (pc + 3) ls (.int x :: st.drop n) (ev_fx sd σ σ'))
        | some .byte => ev_cI (cf Mc (st.take n).reverse σ) (fun x σ' => K (pc + 3) ls (.int x :: st.drop n) (ev_fx sd σ σ'))
        | _ => none)
    else none
/-- reads of the heap -/
def ev_rd (M : ev_Me) (K : ev_K) (i : Instr) (pc : Nat) (ls st : List Value) (σ : ev_S) : Option ev_R :=
  match i with
  | .getfield idx => match st with
    | .ref k :: r => match ev_lk (ev_fl M.2.2.2.2.1) idx with
      | some (ci, j, kd, _) => bif ev_kd σ.1.1 k == (0, ci) then (bif Nat.beq kd 2 then K (pc + 3) ls (ev_rv (σ.2.2.2 k j) :: r) σ else K (pc + 3) ls (.int (σ.2.1 k j) :: r) σ)
        else bif Nat.beq ci 20 && Nat.beq (ev_kd σ.1.1 k).1 10 then (bif Nat.beq j 0 then K (pc + 3) ls (.ref (k + 1) :: r) σ else K (pc + 3) ls (.int 0 :: r) σ)
        else none
      | none => none
    | _ => none
  | .getstatic idx => bif Nat.beq M.2.2.2.2.1 13 then (bif Nat.beq idx 38 then K (pc + 3) ls (.int 1 :: st) σ else bif Nat.beq idx 1053 then K (pc + 3) ls (.retAddr 0 :: st) σ else none) else none
  | .arraylength => match st with
    | .ref k :: r => match ev_kd σ.1.1 k with
      | (1, n) => K (pc + 1) ls (.int (Int32.ofNat n) :: r) σ
      | (2, n) => K (pc + 1) ls (.int (Int32.ofNat n) :: r) σ
      | (11, n) => K (pc + 1) ls (.int (Int32.ofNat ((ev_nth ev_strs n).getD []).length) :: r) σ
      | _ => none
    | _ => none
  | .iaload => match st with
    | .int x :: v :: r => ev_aI σ v x (fun y => K (pc + 1) ls (.int y :: r) σ)
    | _ => none
  | .caload => match st with
    | .int x :: .ref k :: r => match ev_kd σ.1.1 k with
      | (3, n) => if ev_in x n then K (pc + 1) ls (.int (σ.2.1 k x.toNatClampNeg) :: r) σ else none
      | _ => none
    | _ => none
  | .baload => match st with
    | .int x :: .ref k :: r => match ev_kd σ.1.1 k with
      | (4, n) => if ev_in x n then K (pc + 1) ls (.int (σ.2.1 k x.toNatClampNeg) :: r) σ else none
      | (11, n) => if ev_in x ((ev_nth ev_strs n).getD []).length then K (pc + 1) ls (.int (((ev_nth ev_strs n).getD []).getD x.toNatClampNeg 0) :: r) σ else none
      | _ => none
    | _ => none
  | .laload => match st with
    | .int x :: .ref k :: r => match ev_kd σ.1.1 k with
      | (2, n) => if ev_in x n then K (pc + 1) ls (.long (σ.2.2.1 k x.toNatClampNeg) :: r) σ else none
      | _ => none
    | _ => none
  | .aaload => match st with
    | .int x :: .ref k :: r => match ev_kd σ.1.1 k with
      | (5, n) => if ev_in x n then K (pc + 1) ls (ev_rv (σ.2.2.2 k x.toNatClampNeg) :: r) σ else none
      | (6, n) => if ev_in x n then K (pc + 1) ls (ev_rv (σ.2.2.2 k x.toNatClampNeg) :: r) σ else none
      | _ => none
    | _ => none
  | .ldc idx => match ev_lk (ev_ki M.2.2.2.2.1) idx with
    | some v => K (pc + 2) ls (.int v :: st) σ
    | none => match ev_lk (ev_ks M.2.2.2.2.1) idx with
      | some a => K (pc + 2) ls (.ref (900000 + 2 * a) :: st) σ
      | none => none
  | .ldc_w idx => match ev_lk (ev_ki M.2.2.2.2.1) idx with
    | some v => K (pc + 3) ls (.int v :: st) σ
    | none => match ev_lk (ev_ks M.2.2.2.2.1) idx with
      | some a => K (pc + 3) ls (.ref (900000 + 2 * a) :: st) σ
      | none => none
  | .ldc2_w idx => match ev_lk (ev_kl M.2.2.2.2.1) idx with
    | some v => K (pc + 3) ls (.long v :: st) σ
    | none => none
  | _ => none
def ev_aty : ArrayType → Nat → Bool
  | .int, 1 => true
  | .long, 2 => true
  | .char, 3 => true
  | .boolean, 4 => true
  | _, _ => false
/-- writes of the heap, and what is made -/
def ev_wr (sd : Bool) (M : ev_Me) (K : ev_K) (i : Instr) (pc : Nat) (ls st : List Value) (σ : ev_S) : Option ev_R :=
  match i with
  | .putfield idx => match ev_lk (ev_fl M.2.2.2.2.1) idx with
    | some (ci, j, kd, fin) => bif Nat.beq fin 1 && !(M.1.name == "<init>" && ci + 1 == M.2.2.2.2.1) then none else match st with
      | .int x :: .ref k :: r => bif ev_kd σ.1.1 k == (0, ci) then (bif Nat.beq kd 0 then K (pc + 3) ls r (ev_putI σ k j x) else bif Nat.beq kd 1 then (if ev_fit .boolean x then K (pc + 3) ls r (ev_putI σ k j x) else none) else none) else none
      | .ref a :: .ref k :: r => bif !sd && ev_kd σ.1.1 k == (0, ci) && Nat.beq kd 2 then K (pc + 3) ls r (ev_putR σ k j (some a)) else none
      | _ => none
    | none => none
  | .iastore => match st with
    | .int y :: .int x :: v :: r => ev_sI σ v x y (fun I' => K (pc + 1) ls r (σ.1, I', σ.2.2))
    | _ => none
  | .castore => match st with
    | .int v :: .int x :: .ref k :: r => match ev_kd σ.1.1 k with
      | (3, n) => if ev_in x n then K (pc + 1) ls r (ev_putI σ k x.toNatClampNeg (vp_nar .char v)) else none
      | _ => none
    | _ => none
  | .bastore => match st with
    | .int v :: .int x :: .ref k :: r => match ev_kd σ.1.1 k with
      | (4, n) => if ev_in x n then K (pc + 1) ls r (ev_putI σ k x.toNatClampNeg (vp_nar .boolean v)) else none
      | _ => none
    | _ => none
  | .lastore => match st with
    | .long v :: .int x :: .ref k :: r => match ev_kd σ.1.1 k with
      | (2, n) => if ev_in x n then K (pc + 1) ls r (ev_putL σ k x.toNatClampNeg v) else none
      | _ => none
    | _ => none
  | .aastore => match st with
    | .ref a :: .int x :: .ref k :: r => match ev_kd σ.1.1 k with
      | (5, n) => bif !sd && ev_kd σ.1.1 a == (0, 6) then (if ev_in x n then K (pc + 1) ls r (ev_putR σ k x.toNatClampNeg (some a)) else none) else none
      | _ => none
    | _ => none
  | .new idx => match ev_lk (ev_nl M.2.2.2.2.1) idx with
    | some 50 => bif ev_isThrow M pc && Nat.ble st.length 4 then some (none, ((σ.1.1, false, σ.1.2.2.1 + 1, σ.1.2.2.2 + 6), σ.2)) else none
    | some ci => bif !sd && σ.1.2.1 && (ev_lay σ.1.1 == (0, ci)) && Nat.blt σ.1.1 ev_N0 && Nat.blt ci 11 then K (pc + 3) ls (.ref σ.1.1 :: st) (ev_more σ ((ev_nth vwCl ci).getD ("", fun _ => ("", "", "", false), 0)).2.2) else none
    | none => none
  | .newarray ty => match st with
    | .int x :: r => match ev_lay σ.1.1 with
      | (kd, n) => bif !sd && σ.1.2.1 && Nat.blt σ.1.1 ev_N0 && ev_aty ty kd && decide (x = Int32.ofNat n) && Nat.blt n 1000 then K (pc + 2) ls (.ref σ.1.1 :: r) (ev_more σ n) else none
    | _ => none
  | .anewarray idx => match st, ev_lk (ev_nl M.2.2.2.2.1) idx with
    | .int x :: r, some 6 => match ev_lay σ.1.1 with
      | (5, n) => bif !sd && σ.1.2.1 && Nat.blt σ.1.1 ev_N0 && decide (x = Int32.ofNat n) && Nat.blt n 1000 then K (pc + 3) ls (.ref σ.1.1 :: r) (ev_more σ n) else none
      | _ => none
    | _, _ => none
  | .multianewarray idx 2 => match st, ev_lk (ev_nl M.2.2.2.2.1) idx with
    | .int y :: .int x :: r, some 60 => match ev_lay σ.1.1, ev_lay (σ.1.1 + 1) with
      | (6, a), (1, b) => bif !sd && σ.1.2.1 && Nat.ble (σ.1.1 + 1 + a) ev_N0 && decide (x = Int32.ofNat a) && decide (y = Int32.ofNat b) && ev_rowsOk b a (σ.1.1 + 1) && Nat.blt a 1000 && Nat.blt b 1000 then
          K (pc + 4) ls (.ref σ.1.1 :: r) ((ev_moreN b a (ev_more σ a)).1, (ev_moreN b a (ev_more σ a)).2.1, (ev_moreN b a (ev_more σ a)).2.2.1, (fun p q => bif Nat.beq p σ.1.1 then (if q < a then some (σ.1.1 + 1 + q) else none) else (ev_moreN b a (ev_more σ a)).2.2.2 p q)) else none
      | _, _ => none
    | _, _ => none
  | _ => none
/-- stack, numbers, jumps, ends -/
def ev_pl (M : ev_Me) (K : ev_K) (i : Instr) (pc : Nat) (ls st : List Value) (σ : ev_S) : Option ev_R :=
  match i with
  | .dup => match st with
    | v :: r => bif Nat.beq v.category 1 then K (pc + 1) ls (v :: v :: r) σ else none
    | _ => none
  | .dup2 => match st with
    | v :: w :: r => bif Nat.beq v.category 1 && Nat.beq w.category 1 then K (pc + 1) ls (v :: w :: v :: w :: r) σ else none
    | _ => none
  | .pop => match st with
    | v :: r => bif Nat.beq v.category 1 then K (pc + 1) ls r σ else none
    | _ => none
  | .iinc k n => match ev_nth ls k with
    | some (.int x) => ev_sk1 ls k (.int (x + Int32.ofInt n)) (fun ls' => K (pc + 3) ls' st σ)
    | _ => none
  | .idiv => match st with
    | .int y :: .int x :: r => if y = 0 then none else K (pc + 1) ls (.int (x / y) :: r) σ
    | _ => none
  | .irem => match st with
    | .int y :: .int x :: r => if y = 0 then none else K (pc + 1) ls (.int (x - x / y * y) :: r) σ
    | _ => none
  | .ldiv => match st with
    | .long y :: .long x :: r => if y = 0 then none else K (pc + 1) ls (.long (x / y) :: r) σ
    | _ => none
  | .lrem => match st with
    | .long y :: .long x :: r => if y = 0 then none else K (pc + 1) ls (.long (x - x / y * y) :: r) σ
    | _ => none
  | .i2l => match st with
    | .int x :: r => K (pc + 1) ls (.long x.toInt64 :: r) σ
    | _ => none
  | .lcmp => match st with
    | .long y :: .long x :: r => K (pc + 1) ls (.int (lg_cmp x y) :: r) σ
    | _ => none
  | .goto off => K (ev_go pc off) ls st σ
  | .ifCond .eq off => match st with
    | .int x :: r => if x = 0 then K (ev_go pc off) ls r σ else K (pc + 3) ls r σ
    | _ => none
  | .ifCond .ne off => match st with
    | .int x :: r => if x = 0 then K (pc + 3) ls r σ else K (ev_go pc off) ls r σ
    | _ => none
  | .ifCond .lt off => match st with
    | .int x :: r => if x < 0 then K (ev_go pc off) ls r σ else K (pc + 3) ls r σ
    | _ => none
  | .ifCond .ge off => match st with
    | .int x :: r => if x < 0 then K (pc + 3) ls r σ else K (ev_go pc off) ls r σ
    | _ => none
  | .ifCond .gt off => match st with
    | .int x :: r => if 0 < x then K (ev_go pc off) ls r σ else K (pc + 3) ls r σ
    | _ => none
  | .ifCond .le off => match st with
    | .int x :: r => if 0 < x then K (pc + 3) ls r σ else K (ev_go pc off) ls r σ
    | _ => none
  | .if_icmp .eq off => match st with
    | .int y :: .int x :: r => if x = y then K (ev_go pc off) ls r σ else K (pc + 3) ls r σ
    | _ => none
  | .if_icmp .ne off => match st with
    | .int y :: .int x :: r => if x = y then K (pc + 3) ls r σ else K (ev_go pc off) ls r σ
    | _ => none
  | .if_icmp .lt off => match st with
    | .int y :: .int x :: r => if x < y then K (ev_go pc off) ls r σ else K (pc + 3) ls r σ
    | _ => none
  | .if_icmp .ge off => match st with
    | .int y :: .int x :: r => if x < y then K (pc + 3) ls r σ else K (ev_go pc off) ls r σ
    | _ => none
  | .if_icmp .gt off => match st with
    | .int y :: .int x :: r => if y < x then K (ev_go pc off) ls r σ else K (pc + 3) ls r σ
    | _ => none
  | .if_icmp .le off => match st with
    | .int y :: .int x :: r => if y < x then K (pc + 3) ls r σ else K (ev_go pc off) ls r σ
    | _ => none
  | .tableswitch dflt lo hi offs => match st with
    | .int x :: r => bif decide (0 ≤ hi - lo) && decide (offs.size = (hi - lo).toNat + 1) && decide (-1000 < lo) && decide (hi < 1000) then ev_tsw dflt lo hi offs pc x (fun p => K p ls r σ) ((hi - lo).toNat + 1) else none
    | _ => none
  | .lookupswitch dflt ps => match st with
    | .int x :: r => bif (ps.toList.zip (ps.toList.drop 1)).all (fun (a, next) => a.1 < next.1) && ps.toList.all (fun a => decide (-1000 < a.1) && decide (a.1 < 1000)) then ev_lsw dflt pc x (fun p => K p ls r σ) ps.toList else none
    | _ => none
  | .ireturn => match st with
    | [.int x] => match M.2.2.2.1 with
      | some .int => some (some (some (.int x)), σ)
      | some .boolean => if ev_fit .boolean x then some (some (some (.int x)), σ) else none
      | some .char => if ev_fit .char x then some (some (some (.int x)), σ) else none
      | some .byte => if ev_fit .byte x then some (some (some (.int x)), σ) else none
      | _ => none
    | _ => none
  | .lreturn => match st with
    | [.long x] => match M.2.2.2.1 with
      | some .long => some (some (some (.long x)), σ)
      | _ => none
    | _ => none
  | .return_ => match st with
    | [] => match M.2.2.2.1 with
      | none => some (some none, σ)
      | _ => none
    | _ => none
  | _ => none
/-- an instruction's length -/
def ev_len (pc : Nat) : Instr → Nat
  | .bipush _ => 2
  | .sipush _ => 3
  | .iload _ => 2
  | .lload _ => 2
  | .aload _ => 2
  | .istore _ => 2
  | .lstore _ => 2
  | .astore _ => 2
  | .iinc _ _ => 3
  | .ldc _ => 2
  | .ldc_w _ => 3
  | .ldc2_w _ => 3
  | .goto _ => 3
  | .ifCond _ _ => 3
  | .if_icmp _ _ => 3
  | .getfield _ => 3
  | .getstatic _ => 3
  | .putfield _ => 3
  | .invokevirtual _ => 3
  | .invokespecial _ => 3
  | .invokestatic _ => 3
  | .new _ => 3
  | .newarray _ => 2
  | .anewarray _ => 3
  | .multianewarray _ _ => 4
  | .tableswitch _ _ _ offs => 1 + (3 - pc % 4) + 12 + 4 * offs.size
  | .lookupswitch _ ps => 1 + (3 - pc % 4) + 8 + 8 * ps.size
  | _ => 1
/-- its jumps lead to places -/
def ev_jok (pc : Nat) : Instr → Bool
  | .goto off => decide (0 ≤ (pc : Int) + off)
  | .ifCond _ off => decide (0 ≤ (pc : Int) + off)
  | .if_icmp _ off => decide (0 ≤ (pc : Int) + off)
  | .tableswitch dflt _ _ offs => decide (0 ≤ (pc : Int) + dflt) && offs.toList.all (fun off => decide (0 ≤ (pc : Int) + off))
  | .lookupswitch dflt ps => decide (0 ≤ (pc : Int) + dflt) && ps.toList.all (fun q => decide (0 ≤ (pc : Int) + q.2))
  | _ => true
/-- one instruction, then K -/
def ev_exe (sd : Bool) (cf : ev_Me → List Value → ev_S → Option ev_R) (M : ev_Me) (K : ev_K) (i : Instr) (pc : Nat) (ls st : List Value) (σ : ev_S) : Option ev_R :=
  match ev_con i with
  | some (v, n) => K (pc + n) ls (v :: st) σ
  | none => match ev_loa i with
    | some (t, k, n) => match ev_nth ls k with
      | some v => bif ev_is v t then K (pc + n) ls (v :: st) σ else none
      | none => none
    | none => match ev_sto i with
      | some (t, k, n) => match st with
        | v :: r => bif ev_is v t then (bif Nat.beq t 1 then ev_sk2 ls k v (fun ls' => K (pc + n) ls' r σ) else ev_sk1 ls k v (fun ls' => K (pc + n) ls' r σ)) else none
        | [] => none
      | none => match ev_i2 i with
        | some f => match st with
          | .int y :: .int x :: r => K (pc + 1) ls (.int (f x y) :: r) σ
          | _ => none
        | none => match ev_i1 i with
          | some f => match st with
            | .int x :: r => K (pc + 1) ls (.int (f x) :: r) σ
            | _ => none
          | none => match ev_l2 i with
            | some f => match st with
              | .long y :: .long x :: r => K (pc + 1) ls (.long (f x y) :: r) σ
              | _ => none
            | none => match ev_l3 i with
              | some f => match st with
                | .int y :: .long x :: r => K (pc + 1) ls (.long (f x y) :: r) σ
                | _ => none
              | none => match i with
                | .invokevirtual idx => ev_inv sd cf M K true false false idx pc ls st σ
                | .invokespecial idx => ev_inv sd cf M K false true false idx pc ls st σ
                | .invokestatic idx => ev_inv sd cf M K false false true idx pc ls st σ
                | .getfield _ => ev_rd M K i pc ls st σ
                | .getstatic _ => ev_rd M K i pc ls st σ
                | .arraylength => ev_rd M K i pc ls st σ
                | .iaload => ev_rd M K i pc ls st σ
                | .caload => ev_rd M K i pc ls st σ
                | .baload => ev_rd M K i pc ls st σ
                | .laload => ev_rd M K i pc ls st σ
                | .aaload => ev_rd M K i pc ls st σ
                | .ldc _ => ev_rd M K i pc ls st σ
                | .ldc_w _ => ev_rd M K i pc ls st σ
                | .ldc2_w _ => ev_rd M K i pc ls st σ
                | .putfield _ => ev_wr sd M K i pc ls st σ
                | .iastore => ev_wr sd M K i pc ls st σ
                | .castore => ev_wr sd M K i pc ls st σ
                | .bastore => ev_wr sd M K i pc ls st σ
                | .lastore => ev_wr sd M K i pc ls st σ
                | .aastore => ev_wr sd M K i pc ls st σ
                | .new _ => ev_wr sd M K i pc ls st σ
                | .newarray _ => ev_wr sd M K i pc ls st σ
                | .anewarray _ => ev_wr sd M K i pc ls st σ
                | .multianewarray _ _ => ev_wr sd M K i pc ls st σ
                | _ => ev_pl M K i pc ls st σ
/-- instructions up to a place where an equation ends -/
def ev_seg (sd : Bool) (cf : ev_Me → List Value → ev_S → Option ev_R) (M : ev_Me) (back : ev_K) : Nat → ev_K
  | 0, _, _, _, _ => none
  | k + 1, pc, ls, st, σ => match ev_lk M.2.2.2.2.2.1 pc with
    | some (i, _) => ev_exe sd cf M (fun pc' ls' st' σ' => match ev_lk M.2.2.2.2.2.2 pc' with
      | some dead => back pc' (ev_clr ls' dead) st' σ'
      | none => ev_seg sd cf M back k pc' ls' st' σ') i pc ls st σ
    | none => none
def ev_run (sd : Bool) (cf : ev_Me → List Value → ev_S → Option ev_R) (M : ev_Me) : Nat → ev_K
  | 0, _, _, _, _ => none
  | f + 1, pc, ls, st, σ => ev_seg sd cf M (ev_run sd cf M f) 1000 pc ls st σ
/-- the locals at a method's entry -/
def ev_ent : List Value → Nat → List Value
  | [], n => List.replicate n ev_U
  | v :: t, n => bif Nat.beq v.category 2 then v :: ev_U :: ev_ent t (n - 2) else v :: ev_ent t (n - 1)
/-- how many locals the arguments take -/
def ev_words : List Value → Nat
  | [] => 0
  | v :: t => v.category + ev_words t
