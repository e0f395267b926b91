/-! THE SMALL MACHINE: a pure machine over the claim's own methods; its weakest precondition is a least fixed point, so that a walk is a pure proof.
A state: how many cells there are, the kind of each (an object of kind ci, or an array of type t and length n), ints, longs, references by cell and place. -/
abbrev am_K : Type := Nat ⊕ (Nat × Nat)
/-- a value: an int .inl x, a reference .inr (.inl a), a long .inr (.inr (some x)); nothing is .inr (.inr none). Ints and longs are whole numbers in their range -/
abbrev am_V : Type := Int ⊕ (Nat ⊕ Option Int)
abbrev am_S : Type := Nat × (Nat → am_K) × (Nat → Nat → Int) × (Nat → Nat → Int) × (Nat → Nat → Option Nat)
abbrev am_Q : Type := Option am_V → am_S → Prop
/-- a place in a run: method, pc, locals, stack, cells and slots made so far in this frame, state -/
abbrev am_C : Type := Nat × Nat × List am_V × List am_V × (Nat × Nat) × am_S
def am_u {α : Type} (f : Nat → Nat → α) (a k : Nat) (v : α) : Nat → Nat → α := fun b j => if b = a then (if j = k then v else f b j) else f b j
def am_z {α : Type} (f : Nat → Nat → α) (a : Nat) (v : α) : Nat → Nat → α := fun b j => if b = a then v else f b j
def am_uK (K : Nat → am_K) (a : Nat) (v : am_K) : Nat → am_K := fun b => if b = a then v else K b
/-- locals: a place that holds nothing (or a long's second half) is .inr (.inr none) -/
def am_cat (v : am_V) : Nat := match v with
  | .inr (.inr (some _)) => 2
  | _ => 1
def am_clr (ls : List am_V) (i : Nat) : List am_V := match i with
  | 0 => ls
  | j + 1 => match ls[j]? with
    | some (.inr (.inr (some _))) => ls.set j (.inr (.inr none))
    | _ => ls
def am_st1 (ls : List am_V) (i : Nat) (v : am_V) : List am_V := (am_clr ls i).set i v
def am_st2 (ls : List am_V) (i : Nat) (v : am_V) : List am_V := ((am_clr ls i).set i v).set (i + 1) (.inr (.inr none))
def am_fl : List am_V → List am_V
  | [] => []
  | .inr (.inr (some x)) :: vs => .inr (.inr (some x)) :: .inr (.inr none) :: am_fl vs
  | v :: vs => v :: am_fl vs
def am_pad : List am_V → Nat → List am_V
  | [], n => List.replicate n (.inr (.inr none))
  | v :: vs, n => v :: am_pad vs (n - 1)
def am_entry (r : Nat) (as : List am_V) (σ : am_S) : am_C := (r, 0, am_pad (am_fl as) (am_ml r), [], (0, 0), σ)
-- results: a computed number is named
def am_ar (e : Int) (f : Int → Prop) : Prop := ∀ z q : Int, z = e + 4294967296 * q → -2147483648 ≤ z → z ≤ 2147483647 → f z
def am_al (e : Int) (f : Int → Prop) : Prop := ∀ z q : Int, z = e + 18446744073709551616 * q → -9223372036854775808 ≤ z → z ≤ 9223372036854775807 → f z
def am_nm (e : Int) (f : Int → Prop) : Prop := ∀ z : Int, z = e → -2147483648 ≤ z → z ≤ 2147483647 → f z
def am_nl (e : Int) (f : Int → Prop) : Prop := ∀ z : Int, z = e → -9223372036854775808 ≤ z → z ≤ 9223372036854775807 → f z
def am_and (x y : Int) : Int := (Int32.ofInt x &&& Int32.ofInt y).toInt
def am_or (x y : Int) : Int := (Int32.ofInt x ||| Int32.ofInt y).toInt
def am_xor (x y : Int) : Int := (Int32.ofInt x ^^^ Int32.ofInt y).toInt
def am_div (x y : Int) : Int := (Int32.ofInt x / Int32.ofInt y).toInt
def am_rem (x y : Int) : Int := (Int32.ofInt x - Int32.ofInt x / Int32.ofInt y * Int32.ofInt y).toInt
def am_shl (x y : Int) : Int := (Int32.ofInt x <<< (Int32.ofInt y &&& 31)).toInt
def am_shr (x y : Int) : Int := (Int32.ofInt x >>> (Int32.ofInt y &&& 31)).toInt
def am_ush (x y : Int) : Int := ((Int32.ofInt x).toUInt32 >>> ((Int32.ofInt y).toUInt32 &&& Int32.toUInt32 31)).toInt32.toInt
def am_i2c (x : Int) : Int := (((Int32.ofInt x).toUInt32 % 65536).toInt32).toInt
def am_i2b (x : Int) : Int := ((Int32.ofInt x).toInt8.toInt32).toInt
def am_l2i (x : Int) : Int := ((Int64.ofInt x).toInt32).toInt
def am_land (x y : Int) : Int := (Int64.ofInt x &&& Int64.ofInt y).toInt
def am_lor (x y : Int) : Int := (Int64.ofInt x ||| Int64.ofInt y).toInt
def am_lxor (x y : Int) : Int := (Int64.ofInt x ^^^ Int64.ofInt y).toInt
def am_lshl (x y : Int) : Int := (Int64.ofInt x <<< ((Int32.ofInt y).toInt64 &&& 63)).toInt
def am_lshr (x y : Int) : Int := (Int64.ofInt x >>> ((Int32.ofInt y).toInt64 &&& 63)).toInt
def am_lush (x y : Int) : Int := ((Int64.ofInt x).toUInt64 >>> ((Int32.ofInt y).toInt64.toUInt64 &&& Int64.toUInt64 63)).toInt64.toInt
def am_lc (x y : Int) : Int := if y < x then 1 else if x = y then 0 else -1
-- what lies on the stack, in a local
def am_i1 (st : List am_V) (f : Int → List am_V → Prop) : Prop := match st with
  | .inl x :: r => f x r
  | _ => False
def am_i2 (st : List am_V) (f : Int → Int → List am_V → Prop) : Prop := match st with
  | .inl y :: .inl x :: r => f x y r
  | _ => False
def am_l1 (st : List am_V) (f : Int → List am_V → Prop) : Prop := match st with
  | .inr (.inr (some x)) :: r => f x r
  | _ => False
def am_l2 (st : List am_V) (f : Int → Int → List am_V → Prop) : Prop := match st with
  | .inr (.inr (some y)) :: .inr (.inr (some x)) :: r => f x y r
  | _ => False
def am_li (st : List am_V) (f : Int → Int → List am_V → Prop) : Prop := match st with
  | .inl y :: .inr (.inr (some x)) :: r => f x y r
  | _ => False
def am_r1 (st : List am_V) (f : Nat → List am_V → Prop) : Prop := match st with
  | .inr (.inl a) :: r => f a r
  | _ => False
def am_ai (st : List am_V) (f : Nat → Int → List am_V → Prop) : Prop := match st with
  | .inl i :: .inr (.inl a) :: r => f a i r
  | _ => False
def am_aii (st : List am_V) (f : Nat → Int → Int → List am_V → Prop) : Prop := match st with
  | .inl x :: .inl i :: .inr (.inl a) :: r => f a i x r
  | _ => False
def am_ail (st : List am_V) (f : Nat → Int → Int → List am_V → Prop) : Prop := match st with
  | .inr (.inr (some x)) :: .inl i :: .inr (.inl a) :: r => f a i x r
  | _ => False
def am_ir (st : List am_V) (f : Nat → Int → List am_V → Prop) : Prop := match st with
  | .inl x :: .inr (.inl a) :: r => f a x r
  | _ => False
def am_lr (st : List am_V) (f : Nat → Int → List am_V → Prop) : Prop := match st with
  | .inr (.inr (some x)) :: .inr (.inl a) :: r => f a x r
  | _ => False
def am_rr (st : List am_V) (f : Nat → Nat → List am_V → Prop) : Prop := match st with
  | .inr (.inl b) :: .inr (.inl a) :: r => f a b r
  | _ => False
def am_v1 (st : List am_V) (f : am_V → List am_V → Prop) : Prop := match st with
  | v :: r => cond (Nat.beq (am_cat v) 1) (f v r) False
  | _ => False
def am_v2 (st : List am_V) (f : am_V → am_V → List am_V → Prop) : Prop := match st with
  | v :: w :: r => cond (Nat.beq (am_cat v) 1 && Nat.beq (am_cat w) 1) (f v w r) False
  | _ => False
def am_gi (ls : List am_V) (i : Nat) (f : Int → Prop) : Prop := match ls[i]? with
  | some (.inl x) => f x
  | _ => False
def am_gl (ls : List am_V) (i : Nat) (f : Int → Prop) : Prop := match ls[i]? with
  | some (.inr (.inr (some x))) => f x
  | _ => False
def am_ga (ls : List am_V) (i : Nat) (f : Nat → Prop) : Prop := match ls[i]? with
  | some (.inr (.inl a)) => f a
  | _ => False
def am_xi (st : List am_V) (f : Int → Prop) : Prop := match st with
  | [.inl x] => f x
  | _ => False
def am_xl (st : List am_V) (f : Int → Prop) : Prop := match st with
  | [.inr (.inr (some x))] => f x
  | _ => False
def am_xr (st : List am_V) (f : Nat → Prop) : Prop := match st with
  | [.inr (.inl x)] => f x
  | _ => False
def am_xn (st : List am_V) (P : Prop) : Prop := match st with
  | [] => P
  | _ => False
def am_br (c : Jvm.ClassFile.Cond) (x y : Int) (A B : Prop) : Prop := match c with
  | .eq => (x = y → A) ∧ (x ≠ y → B)
  | .ne => (x ≠ y → A) ∧ (x = y → B)
  | .lt => (x < y → A) ∧ (y ≤ x → B)
  | .ge => (y ≤ x → A) ∧ (x < y → B)
  | .gt => (y < x → A) ∧ (x ≤ y → B)
  | .le => (x ≤ y → A) ∧ (y < x → B)
def am_sw (x : Int) (k : Nat → Prop) (d : Nat) : List (Int × Nat) → Prop
  | [] => k d
  | (v, t) :: ts => (x = v → k t) ∧ (x ≠ v → am_sw x k d ts)
def am_tsl : Int → List Int → List (Int × Nat)
  | _, [] => []
  | v, t :: ts => (v, t.toNat) :: am_tsl (v + 1) ts
def am_lsl : List (Int × Int) → List (Int × Nat)
  | [] => []
  | (v, t) :: ts => (v, t.toNat) :: am_lsl ts
/-- behind a call: the answer, by the kind that the method has -/
def am_rt (rc : Nat) (k : List am_V → am_S → Prop) (rest : List am_V) : am_Q := fun v σ => match rc with
  | 0 => v = none ∧ k rest σ
  | 2 => ∃ x : Int, v = some (.inr (.inr (some x))) ∧ k (.inr (.inr (some x)) :: rest) σ
  | 3 => ∃ a : Nat, v = some (.inr (.inl a)) ∧ k (.inr (.inl a) :: rest) σ
  | _ => ∃ x : Int, v = some (.inl x) ∧ k (.inl x :: rest) σ
def am_words (st : List am_V) : Nat := (st.map am_cat).sum
/-- a call can be made: so many operands lie there, little lies below them, the frame's own room holds what the callee may make -/
def am_fit (r m : Nat) (st : List am_V) (ct : Nat × Nat) : Bool :=
  Nat.ble (am_np r) st.length && (Nat.ble (am_fl (st.take (am_np r)).reverse).length (am_ml r) && (Nat.ble (am_words (st.drop (am_np r))) 8 && (Nat.ble (ct.1 + (am_bud r).1) (am_bud m).1 && Nat.ble (ct.2 + (am_bud r).2) (am_bud m).2)))
def am_inv (cl : Nat → List am_V → am_S → am_Q → Prop) (k : List am_V → (Nat × Nat) → am_S → Prop) (r m : Nat) (st : List am_V) (ct : Nat × Nat) (σ : am_S) : Prop :=
  cond (am_fit r m st ct) (cl r (st.take (am_np r)).reverse σ (am_rt (am_rc r) (fun st' σ' => k st' (ct.1 + (am_bud r).1, ct.2 + (am_bud r).2) σ') (st.drop (am_np r)))) False
def am_get (t : Nat) (I : Nat → Nat → Int) (L : Nat → Nat → Int) (R : Nat → Nat → Option Nat) (a j : Nat) (k : am_V → Prop) : Prop := match t with
  | 2 => am_nl (L a j) fun z => k (.inr (.inr (some z)))
  | 3 => ∃ b : Nat, R a j = some b ∧ k (.inr (.inl b))
  | _ => am_nm (I a j) fun z => k (.inl z)
def am_put (t : Nat) (st : List am_V) (kd : Nat → Prop) (ki : Nat → Int → List am_V → Prop) (kl : Nat → Int → List am_V → Prop) (kr : Nat → Nat → List am_V → Prop) : Prop := match t with
  | 0 => am_ir st fun a x r => kd a ∧ ki a x r
  | 1 => am_ir st fun a x r => kd a ∧ (x = 0 ∨ x = 1) ∧ ki a x r
  | 2 => am_lr st fun a x r => kd a ∧ kl a x r
  | 3 => am_rr st fun a b r => kd a ∧ kr a b r
  | _ => False
def am_tc : Jvm.ClassFile.ArrayType → Nat := fun x => match x with
  | .int => 0
  | .boolean => 1
  | .long => 2
  | .byte => 4
  | .char => 5
  | .short => 6
  | .float => 7
  | .double => 8
def am_ret (rc : Nat) (x : Int) (P : Prop) : Prop := match rc with
  | 1 => P
  | 4 => (x = 0 ∨ x = 1) ∧ P
  | 5 => (0 ≤ x ∧ x ≤ 65535) ∧ P
  | 6 => (-128 ≤ x ∧ x ≤ 127) ∧ P
  | _ => False
/-- one instruction -/
def am_ins (d : Nat) (k : am_C → Prop) (cl : Nat → List am_V → am_S → am_Q → Prop) (Q : am_Q) (i : Jvm.ClassFile.Instr) (m nx : Nat) (ls st : List am_V) (ct : Nat × Nat) (n : Nat) (K : Nat → am_K) (I : Nat → Nat → Int) (L : Nat → Nat → Int) (R : Nat → Nat → Option Nat) : Prop :=
  match i with
  | .iconst v => k (m, nx, ls, .inl v :: st, ct, n, K, I, L, R)
  | .bipush v => k (m, nx, ls, .inl v :: st, ct, n, K, I, L, R)
  | .sipush v => k (m, nx, ls, .inl v :: st, ct, n, K, I, L, R)
  | .jsr v => k (m, nx, ls, .inl v :: st, ct, n, K, I, L, R)
  | .lconst v => k (m, nx, ls, .inr (.inr (some ((v : Nat) : Int))) :: st, ct, n, K, I, L, R)
  | .goto_w v => k (m, nx, ls, .inl v :: st, ct, n, K, I, L, R)
  | .jsr_w v => k (m, nx, ls, .inr (.inr (some v)) :: st, ct, n, K, I, L, R)
  | .ldc a => k (m, nx, ls, .inr (.inl a) :: st, ct, n, K, I, L, R)
  | .getstatic v => k (m, nx, ls, .inl (v : Int) :: st, ct, n, K, I, L, R)
  | .iload j => am_gi ls j fun x => k (m, nx, ls, .inl x :: st, ct, n, K, I, L, R)
  | .iload_n j => am_gi ls (j : Nat) fun x => k (m, nx, ls, .inl x :: st, ct, n, K, I, L, R)
  | .lload j => am_gl ls j fun x => k (m, nx, ls, .inr (.inr (some x)) :: st, ct, n, K, I, L, R)
  | .lload_n j => am_gl ls (j : Nat) fun x => k (m, nx, ls, .inr (.inr (some x)) :: st, ct, n, K, I, L, R)
  | .aload j => am_ga ls j fun x => k (m, nx, ls, .inr (.inl x) :: st, ct, n, K, I, L, R)
  | .aload_n j => am_ga ls (j : Nat) fun x => k (m, nx, ls, .inr (.inl x) :: st, ct, n, K, I, L, R)
  | .istore j => am_i1 st fun x r => k (m, nx, am_st1 ls j (.inl x), r, ct, n, K, I, L, R)
  | .istore_n j => am_i1 st fun x r => k (m, nx, am_st1 ls (j : Nat) (.inl x), r, ct, n, K, I, L, R)
  | .lstore j => am_l1 st fun x r => k (m, nx, am_st2 ls j (.inr (.inr (some x))), r, ct, n, K, I, L, R)
  | .lstore_n j => am_l1 st fun x r => k (m, nx, am_st2 ls (j : Nat) (.inr (.inr (some x))), r, ct, n, K, I, L, R)
  | .astore j => am_r1 st fun x r => k (m, nx, am_st1 ls j (.inr (.inl x)), r, ct, n, K, I, L, R)
  | .astore_n j => am_r1 st fun x r => k (m, nx, am_st1 ls (j : Nat) (.inr (.inl x)), r, ct, n, K, I, L, R)
  | .iinc j v => am_gi ls j fun x => am_ar (x + v) fun z => k (m, nx, am_st1 ls j (.inl z), st, ct, n, K, I, L, R)
  | .iadd => am_i2 st fun x y r => am_ar (x + y) fun z => k (m, nx, ls, .inl z :: r, ct, n, K, I, L, R)
  | .isub => am_i2 st fun x y r => am_ar (x - y) fun z => k (m, nx, ls, .inl z :: r, ct, n, K, I, L, R)
  | .imul => am_i2 st fun x y r => am_ar (x * y) fun z => k (m, nx, ls, .inl z :: r, ct, n, K, I, L, R)
  | .iand => am_i2 st fun x y r => am_nm (am_and x y) fun z => k (m, nx, ls, .inl z :: r, ct, n, K, I, L, R)
  | .ior => am_i2 st fun x y r => am_nm (am_or x y) fun z => k (m, nx, ls, .inl z :: r, ct, n, K, I, L, R)
  | .ixor => am_i2 st fun x y r => am_nm (am_xor x y) fun z => k (m, nx, ls, .inl z :: r, ct, n, K, I, L, R)
  | .ishl => am_i2 st fun x y r => am_nm (am_shl x y) fun z => k (m, nx, ls, .inl z :: r, ct, n, K, I, L, R)
  | .ishr => am_i2 st fun x y r => am_nm (am_shr x y) fun z => k (m, nx, ls, .inl z :: r, ct, n, K, I, L, R)
  | .iushr => am_i2 st fun x y r => am_nm (am_ush x y) fun z => k (m, nx, ls, .inl z :: r, ct, n, K, I, L, R)
  | .idiv => am_i2 st fun x y r => y ≠ 0 ∧ am_nm (am_div x y) fun z => k (m, nx, ls, .inl z :: r, ct, n, K, I, L, R)
  | .irem => am_i2 st fun x y r => y ≠ 0 ∧ am_nm (am_rem x y) fun z => k (m, nx, ls, .inl z :: r, ct, n, K, I, L, R)
  | .ineg => am_i1 st fun x r => am_ar (-x) fun z => k (m, nx, ls, .inl z :: r, ct, n, K, I, L, R)
  | .i2l => am_i1 st fun x r => k (m, nx, ls, .inr (.inr (some x)) :: r, ct, n, K, I, L, R)
  | .i2c => am_i1 st fun x r => am_nm (am_i2c x) fun z => k (m, nx, ls, .inl z :: r, ct, n, K, I, L, R)
  | .i2b => am_i1 st fun x r => am_nm (am_i2b x) fun z => k (m, nx, ls, .inl z :: r, ct, n, K, I, L, R)
  | .l2i => am_l1 st fun x r => am_nm (am_l2i x) fun z => k (m, nx, ls, .inl z :: r, ct, n, K, I, L, R)
  | .ladd => am_l2 st fun x y r => am_al (x + y) fun z => k (m, nx, ls, .inr (.inr (some z)) :: r, ct, n, K, I, L, R)
  | .lsub => am_l2 st fun x y r => am_al (x - y) fun z => k (m, nx, ls, .inr (.inr (some z)) :: r, ct, n, K, I, L, R)
  | .lmul => am_l2 st fun x y r => am_al (x * y) fun z => k (m, nx, ls, .inr (.inr (some z)) :: r, ct, n, K, I, L, R)
  | .land => am_l2 st fun x y r => am_nl (am_land x y) fun z => k (m, nx, ls, .inr (.inr (some z)) :: r, ct, n, K, I, L, R)
  | .lor => am_l2 st fun x y r => am_nl (am_lor x y) fun z => k (m, nx, ls, .inr (.inr (some z)) :: r, ct, n, K, I, L, R)
  | .lxor => am_l2 st fun x y r => am_nl (am_lxor x y) fun z => k (m, nx, ls, .inr (.inr (some z)) :: r, ct, n, K, I, L, R)
  | .lcmp => am_l2 st fun x y r => am_nm (am_lc x y) fun z => k (m, nx, ls, .inl z :: r, ct, n, K, I, L, R)
  | .lshl => am_li st fun x y r => am_nl (am_lshl x y) fun z => k (m, nx, ls, .inr (.inr (some z)) :: r, ct, n, K, I, L, R)
  | .lshr => am_li st fun x y r => am_nl (am_lshr x y) fun z => k (m, nx, ls, .inr (.inr (some z)) :: r, ct, n, K, I, L, R)
  | .lushr => am_li st fun x y r => am_nl (am_lush x y) fun z => k (m, nx, ls, .inr (.inr (some z)) :: r, ct, n, K, I, L, R)
  | .dup => am_v1 st fun v r => k (m, nx, ls, v :: v :: r, ct, n, K, I, L, R)
  | .pop => am_v1 st fun _ r => k (m, nx, ls, r, ct, n, K, I, L, R)
  | .dup_x1 => am_v2 st fun v w r => k (m, nx, ls, v :: w :: v :: r, ct, n, K, I, L, R)
  | .dup2 => am_v2 st fun v w r => k (m, nx, ls, v :: w :: v :: w :: r, ct, n, K, I, L, R)
  | .ifCond c t => am_i1 st fun x r => am_br c x 0 (k (m, t.toNat, ls, r, ct, n, K, I, L, R)) (k (m, nx, ls, r, ct, n, K, I, L, R))
  | .if_icmp c t => am_i2 st fun x y r => am_br c x y (k (m, t.toNat, ls, r, ct, n, K, I, L, R)) (k (m, nx, ls, r, ct, n, K, I, L, R))
  | .goto t => k (m, t.toNat, ls, st, ct, n, K, I, L, R)
  | .tableswitch t lo _ os => am_i1 st fun x r => am_sw x (fun t => k (m, t, ls, r, ct, n, K, I, L, R)) t.toNat (am_tsl lo os.toList)
  | .lookupswitch t ps => am_i1 st fun x r => am_sw x (fun t => k (m, t, ls, r, ct, n, K, I, L, R)) t.toNat (am_lsl ps.toList)
  | .getfield q => am_r1 st fun a r => K a = .inl (q / 64) ∧ am_get (am_fty (q / 64) (q % 64)) I L R a (q % 64) fun v => k (m, nx, ls, v :: r, ct, n, K, I, L, R)
  | .putfield q => am_put (am_fty (q / 64) (q % 64)) st (fun a => am_nc ≤ a ∧ K a = .inl (q / 64)) (fun a x r => k (m, nx, ls, r, ct, n, K, am_u I a (q % 64) x, L, R)) (fun a x r => k (m, nx, ls, r, ct, n, K, I, am_u L a (q % 64) x, R)) (fun a b r => k (m, nx, ls, r, ct, n, K, I, L, am_u R a (q % 64) (some b)))
  | .iaload => am_ai st fun a j r => ∃ len : Nat, K a = .inr (0, len) ∧ (0 ≤ j ∧ j < (len : Int)) ∧ am_nm (I a j.toNat) fun z => k (m, nx, ls, .inl z :: r, ct, n, K, I, L, R)
  | .baload => am_ai st fun a j r => ∃ len : Nat, (am_nc ≤ a ∧ K a = .inr (1, len) ∨ K a = .inr (4, len)) ∧ (0 ≤ j ∧ j < (len : Int)) ∧ am_nm (I a j.toNat) fun z => k (m, nx, ls, .inl z :: r, ct, n, K, I, L, R)
  | .laload => am_ai st fun a j r => ∃ len : Nat, am_nc ≤ a ∧ K a = .inr (2, len) ∧ (0 ≤ j ∧ j < (len : Int)) ∧ am_nl (L a j.toNat) fun z => k (m, nx, ls, .inr (.inr (some z)) :: r, ct, n, K, I, L, R)
  | .iastore => am_aii st fun a j x r => ∃ len : Nat, am_nc ≤ a ∧ K a = .inr (0, len) ∧ (0 ≤ j ∧ j < (len : Int)) ∧ k (m, nx, ls, r, ct, n, K, am_u I a j.toNat x, L, R)
  | .bastore => am_aii st fun a j x r => ∃ len : Nat, am_nc ≤ a ∧ (K a = .inr (1, len) ∧ (x = 0 ∨ x = 1) ∨ K a = .inr (4, len) ∧ (-128 ≤ x ∧ x ≤ 127)) ∧ (0 ≤ j ∧ j < (len : Int)) ∧ k (m, nx, ls, r, ct, n, K, am_u I a j.toNat x, L, R)
  | .lastore => am_ail st fun a j x r => ∃ len : Nat, am_nc ≤ a ∧ K a = .inr (2, len) ∧ (0 ≤ j ∧ j < (len : Int)) ∧ k (m, nx, ls, r, ct, n, K, I, am_u L a j.toNat x, R)
  | .arraylength => am_r1 st fun a r => ∃ t len : Nat, K a = .inr (t, len) ∧ (a < am_nc ∧ t < 9 ∧ t ≠ 2 ∨ am_nc ≤ a ∧ (t < 3 ∨ t = 4)) ∧ (len : Int) ≤ 2147483647 ∧ k (m, nx, ls, .inl (len : Int) :: r, ct, n, K, I, L, R)
  | .new c => cond (Nat.ble (ct.1 + 1) (am_bud m).1 && Nat.ble (ct.2 + am_N c) (am_bud m).2) (k (m, nx, ls, .inr (.inl n) :: st, (ct.1 + 1, ct.2 + am_N c), n + 1, am_uK K n (.inl c), am_z I n 0, am_z L n 0, am_z R n none)) False
  | .newarray t => am_i1 st fun x r => 0 ≤ x ∧ ((Nat.ble (am_tc t) 2 || Nat.beq (am_tc t) 4) && (Nat.ble (ct.1 + 1) (am_bud m).1 && (Nat.ble (ct.2 + x.toNat) (am_bud m).2 && Nat.ble x.toNat 60000000))) = true ∧ k (m, nx, ls, .inr (.inl n) :: r, (ct.1 + 1, ct.2 + x.toNat), n + 1, am_uK K n (.inr (am_tc t, x.toNat)), am_z I n 0, am_z L n 0, am_z R n none)
  | .invokestatic r => match r with
    | 1 => am_i2 st fun x y r => (0 ≤ x ∧ x < y) ∧ cond (Nat.ble 2 d && Nat.ble (am_words r) 8) (k (m, nx, ls, r, ct, n, K, I, L, R)) False
    | 2 => am_i2 st fun x y r => cond (Nat.ble 1 d && Nat.ble (am_words r) 8) (am_nm (if x < y then y else x) fun z => k (m, nx, ls, .inl z :: r, ct, n, K, I, L, R)) False
    | 3 => am_i2 st fun x y r => cond (Nat.ble 1 d && Nat.ble (am_words r) 8) (am_nm (if y < x then y else x) fun z => k (m, nx, ls, .inl z :: r, ct, n, K, I, L, R)) False
    | _ => am_inv cl (fun st' ct' σ' => k (m, nx, ls, st', ct', σ')) r m st ct (n, K, I, L, R)
  | .invokespecial r => match r with
    | 0 => am_r1 st fun _ r => cond (Nat.ble 1 d && Nat.ble (am_words r) 8) (k (m, nx, ls, r, ct, n, K, I, L, R)) False
    | _ => am_r1 (st.drop (am_np r - 1)) fun _ _ => am_inv cl (fun st' ct' σ' => k (m, nx, ls, st', ct', σ')) r m st ct (n, K, I, L, R)
  | .invokevirtual r => am_r1 (st.drop (am_np r - 1)) fun a _ => K a = .inl (am_rcv r) ∧ am_inv cl (fun st' ct' σ' => k (m, nx, ls, st', ct', σ')) r m st ct (n, K, I, L, R)
  | .ireturn => am_xi st fun x => am_ret (am_rc m) x (Q (some (.inl x)) (n, K, I, L, R))
  | .lreturn => am_xl st fun x => cond (Nat.beq (am_rc m) 2) (Q (some (.inr (.inr (some x)))) (n, K, I, L, R)) False
  | .areturn => am_xr st fun x => cond (Nat.beq (am_rc m) 3) (Q (some (.inr (.inl x))) (n, K, I, L, R)) False
  | .return_ => am_xn st (cond (Nat.beq (am_rc m) 0) (Q none (n, K, I, L, R)) False)
  | _ => False
def am_step (d : Nat) (k : am_C → Prop) (cl : Nat → List am_V → am_S → am_Q → Prop) (Q : am_Q) (c : am_C) : Prop := match c with
  | (m, pc, ls, st, ct, n, K, I, L, R) => match am_code m pc with
    | none => False
    | some (i, nx, _) => am_ins d k cl Q i m nx ls st ct n K I L R
def am_cl (X : Nat → am_C → am_Q → Prop) (d : Nat) (r : Nat) (as : List am_V) (σ : am_S) (Q : am_Q) : Prop := match d with
  | 0 => False
  | e + 1 => X e (am_entry r as σ) Q
def am_pre (X : Nat → am_C → am_Q → Prop) : Prop := ∀ (d : Nat) (c : am_C) (Q : am_Q), am_step d (fun c' => X d c' Q) (am_cl X d) Q c → X d c Q
/-- THE WEAKEST PRECONDITION: with d frames left, from c the run ends, and Q holds of its answer and state -/
def am_WP (d : Nat) (c : am_C) (Q : am_Q) : Prop := ∀ X : Nat → am_C → am_Q → Prop, am_pre X → X d c Q
