/-! THE EXAMPLE: bytes, names, numbers -/
theorem am_lbn (x : Nat) : (Int64.ofInt (x : Int)).toBitVec = BitVec.ofNat 64 x := by
  show BitVec.ofInt 64 (x : Int) = _
  exact BitVec.ofInt_natCast 64 x
theorem am_ltn {x : Nat} (h : x < 9223372036854775808) : (BitVec.ofNat 64 x).toInt = (x : Int) := by
  rw [BitVec.toInt_eq_toNat_of_lt]
  · rw [BitVec.toNat_ofNat, Nat.mod_eq_of_lt (by omega)]
  · rw [BitVec.toNat_ofNat, Nat.mod_eq_of_lt (by omega)]; omega
theorem am_lsm {q : Nat} (hq : q < 64) : (((Int32.ofInt (q : Int)).toInt64 &&& 63).toBitVec.smod 64).toNat = q := by
  have : ∀ q : Fin 64, (((Int32.ofInt ((q.val : Nat) : Int)).toInt64 &&& 63).toBitVec.smod 64).toNat = q.val := by decide +kernel
  exact this ⟨q, hq⟩
theorem am_lshrn {x q : Nat} (hx : x < 9223372036854775808) (hq : q < 64) : am_lshr (x : Int) (q : Int) = ((x >>> q : Nat) : Int) := by
  unfold am_lshr
  show (Int64.ofInt (x : Int) >>> ((Int32.ofInt (q : Int)).toInt64 &&& 63)).toBitVec.toInt = _
  rw [Int64.toBitVec_shiftRight, BitVec.sshiftRight', am_lsm hq, am_lbn, BitVec.toInt_sshiftRight, am_ltn hx]
  rfl
theorem am_landn {x y : Nat} (_hx : x < 9223372036854775808) (hy : y < 9223372036854775808) : am_land (x : Int) (y : Int) = ((x &&& y : Nat) : Int) := by
  have hl : x &&& y < 2 ^ 63 := Nat.and_lt_two_pow _ (by omega)
  unfold am_land
  show (Int64.ofInt (x : Int) &&& Int64.ofInt (y : Int)).toBitVec.toInt = _
  rw [Int64.toBitVec_and, am_lbn, am_lbn, ← BitVec.ofNat_and, am_ltn (by omega)]
theorem am_dig {x : Int} {q b : Nat} (hx : 0 ≤ x) (hx2 : x < 9223372036854775808) (hq : q < 64) (hb : b < 32) : am_land (am_lshr x (q : Int)) ((2 ^ b - 1 : Nat) : Int) = x / ((2 ^ q : Nat) : Int) % ((2 ^ b : Nat) : Int) := by
  obtain ⟨y, rfl⟩ : ∃ y : Nat, x = (y : Int) := ⟨x.toNat, by omega⟩
  have hp : 2 ^ b ≤ 2 ^ 31 := Nat.pow_le_pow_right (by decide) (by omega)
  rw [am_lshrn (by omega) hq, am_landn (Nat.lt_of_le_of_lt (Nat.shiftRight_le y q) (by omega)) (by omega), Nat.and_two_pow_sub_one_eq_mod, Nat.shiftRight_eq_div_pow]
  simp
theorem am_i2b_k {x : Int} (h : 0 ≤ x) (h2 : x < 128) : am_i2b x = x := by
  have : ∀ y : Fin 128, am_i2b ((y.val : Nat) : Int) = ((y.val : Nat) : Int) := by decide +kernel
  obtain ⟨y, rfl⟩ : ∃ y : Nat, x = (y : Int) := ⟨x.toNat, by omega⟩
  exact this ⟨y, by omega⟩
/-- the letters of a word, from its number -/
theorem wl6_lt : ∀ (l : List Int) (k : Nat), (∀ x ∈ l, tb_small x) → l.length ≤ k + 1 → wl_6 l < 128 * 256 ^ k := by
  intro l
  induction l with
  | nil =>
    intro k _ _
    have : (0 : Int) < 256 ^ k := Int.pow_pos (by decide)
    show (0 : Int) < _
    omega
  | cons x l ih =>
    intro k h hl
    have hx := h x List.mem_cons_self
    unfold tb_small at hx
    have hl : l.length + 1 ≤ k + 1 := hl
    cases k with
    | zero =>
      have : l = [] := List.eq_nil_of_length_eq_zero (by omega)
      subst this
      show (0 : Int) * 256 + x < 128 * 256 ^ 0
      omega
    | succ k =>
      have := ih k (fun y hy => h y (List.mem_cons_of_mem _ hy)) (by omega)
      show wl_6 l * 256 + x < 128 * 256 ^ (k + 1)
      rw [Int.pow_succ]
      omega
theorem wl2_lt : ∀ (l : List Int) (k : Nat), (∀ x ∈ l, tb_small x) → l.length ≤ k → wl_2 l < 32 ^ k := by
  intro l
  induction l with
  | nil =>
    intro k _ _
    exact Int.pow_pos (by decide)
  | cons x l ih =>
    intro k h hl
    have hl : l.length + 1 ≤ k := hl
    cases k with
    | zero => omega
    | succ k =>
      have := ih k (fun y hy => h y (List.mem_cons_of_mem _ hy)) (by omega)
      show 32 * wl_2 l + x % 32 < 32 ^ (k + 1)
      rw [Int.pow_succ]
      omega
theorem wl6_div : ∀ (q : Nat) (l : List Int), (∀ x ∈ l, tb_small x) → wl_6 l / 256 ^ q = wl_6 (l.drop q) := by
  intro q
  induction q with
  | zero => intro l _; rw [Int.pow_zero, Int.ediv_one]; rfl
  | succ q ih =>
    intro l h
    cases l with
    | nil => show (0 : Int) / _ = 0; exact Int.zero_ediv _
    | cons x l =>
      have hx := h x List.mem_cons_self
      unfold tb_small at hx
      rw [Int.pow_succ, Int.mul_comm, ← Int.ediv_ediv_of_nonneg (by decide)]
      show (wl_6 l * 256 + x) / 256 / 256 ^ q = wl_6 (l.drop q)
      rw [show (wl_6 l * 256 + x) / 256 = wl_6 l by omega]
      exact ih l (fun y hy => h y (List.mem_cons_of_mem _ hy))
theorem wl2_div : ∀ (q : Nat) (l : List Int), (∀ x ∈ l, tb_small x) → wl_2 l / 32 ^ q = wl_2 (l.drop q) := by
  intro q
  induction q with
  | zero => intro l _; rw [Int.pow_zero, Int.ediv_one]; rfl
  | succ q ih =>
    intro l h
    cases l with
    | nil => show (0 : Int) / _ = 0; exact Int.zero_ediv _
    | cons x l =>
      rw [Int.pow_succ, Int.mul_comm, ← Int.ediv_ediv_of_nonneg (by decide)]
      show (32 * wl_2 l + x % 32) / 32 / 32 ^ q = wl_2 (l.drop q)
      rw [show (32 * wl_2 l + x % 32) / 32 = wl_2 l by omega]
      exact ih l (fun y hy => h y (List.mem_cons_of_mem _ hy))
def lkI (f : Nat → Int) : Nat → List Int → Prop
  | _, [] => True
  | k, x :: L => f k = x ∧ lkI f (k + 1) L
theorem lkI_fr {f f' : Nat → Int} : ∀ (L : List Int) (k : Nat), lkI f k L → (∀ j : Nat, k ≤ j → j < k + L.length → f' j = f j) → lkI f' k L := by
  intro L
  induction L with
  | nil => intro _ _ _; exact trivial
  | cons x L ih =>
    intro k h hf
    have hf : ∀ j : Nat, k ≤ j → j < k + (L.length + 1) → f' j = f j := hf
    exact ⟨(hf k (Nat.le_refl _) (by omega)).trans h.1, ih (k + 1) h.2 (fun j a b => hf j (by omega) (by omega))⟩
theorem lkI_app {f : Nat → Int} {x : Int} : ∀ (L : List Int) (k : Nat), lkI f k L → f (k + L.length) = x → lkI f k (L ++ [x]) := by
  intro L
  induction L with
  | nil => intro k _ h; exact ⟨h, trivial⟩
  | cons y L ih =>
    intro k h h2
    refine ⟨h.1, ih (k + 1) h.2 ?_⟩
    rw [show k + 1 + L.length = k + (L.length + 1) by omega]; exact h2
theorem lkI_at {f : Nat → Int} : ∀ (L : List Int) (k j : Nat), lkI f k L → (hj : j < L.length) → f (k + j) = L[j] := by
  intro L
  induction L with
  | nil => intro k j _ h; exact absurd h (Nat.not_lt_zero j)
  | cons y L ih =>
    intro k j h hj
    cases j with
    | zero => exact h.1
    | succ j =>
      have := ih (k + 1) j h.2 (Nat.lt_of_succ_lt_succ hj)
      rw [show k + 1 + j = k + (j + 1) by omega] at this
      exact this
def xl (L : List Int) (I : Nat → Nat → Int) : Prop := I 32 0 = (L.length : Int) ∧ lkI (I 33) 0 L
def ml (L : List Int) (I : Nat → Nat → Int) : Prop := I 101 54 = (L.length : Int) ∧ lkI (I 135) 0 L
def xl_fr (I I' : Nat → Nat → Int) : Prop := ∀ a : Nat, a ≠ 32 → a ≠ 33 → I' a = I a
def ml_fr (I I' : Nat → Nat → Int) : Prop := ∀ a j : Nat, ¬ (a = 101 ∧ j = 54) → a ≠ 135 → I' a j = I a j
def digs (n : Int) : List Int := (if 99 < n then [48 + n / 100 % 10] else []) ++ ((if 9 < n then [48 + n / 10 % 10] else []) ++ [48 + n % 10])
section TXT
variable {d n0 : Nat} {C : Nat → am_K} {I J : Nat → Nat → Int} {R : Nat → Nat → Option Nat} {Q : am_Q} {L : List Int}
theorem x_put {b : Int} (hB : am_B C R) (hL : xl L I) (hl : L.length < 1200) (post : ∀ I' : Nat → Nat → Int, xl_fr I I' → xl (L ++ [b]) I' → Q none (n0, C, I', J, R)) : am_WP d (am_entry 103 [.inr (.inl 32), .inl b] (n0, C, I, J, R)) Q := by
  obtain ⟨h1, h2⟩ := hL
  refine e_Line_put ⟨(am_kk hB rfl), am_nm_k h1 ?_⟩
  rintro _ rfl _ _
  refine ⟨fun h => absurd h (by omega), fun _ => ⟨(am_kk hB rfl), 33, (am_rf hB rfl), (am_kk hB rfl), am_nm_k h1 ?_⟩⟩
  rintro _ rfl _ _
  refine ⟨_, by decide, (am_kk hB rfl), ⟨by omega, by omega⟩, (am_kk hB rfl), am_nm_k ((am_u_ne (by decide)).trans h1) ?_⟩
  rintro _ rfl _ _
  refine am_ar_i (by omega) (by omega) ⟨⟨by decide, (am_kk hB rfl)⟩, post _ (fun a h3 h4 => ?_) ⟨?_, ?_⟩⟩
  · rw [am_u_row h3, am_u_row h4]
  · rw [am_u_kk, List.length_append]; show (L.length : Int) + 1 = ((L.length + 1 : Nat) : Int); omega
  · rw [am_u_row (by decide)]
    show lkI (am_u I 33 L.length b 33) 0 (L ++ [b])
    refine lkI_app _ _ (lkI_fr _ _ h2 (fun j _ hj => am_u_kn (by omega))) ?_
    rw [Nat.zero_add]; exact am_u_kk
theorem m_say {b : Int} (hB : am_B C R) (hL : ml L I) (hl : L.length < 3000) (hb : 0 ≤ b) (hb2 : b < 128) (post : ∀ I' : Nat → Nat → Int, ml_fr I I' → ml (L ++ [b]) I' → Q none (n0, C, I', J, R)) : am_WP d (am_entry 70 [.inr (.inl 101), .inl b] (n0, C, I, J, R)) Q := by
  obtain ⟨h1, h2⟩ := hL
  refine e_M_say ⟨(am_kk hB rfl), 135, (am_rf hB rfl), (am_kk hB rfl), am_nm_k h1 ?_⟩
  rintro _ rfl _ _
  refine am_nm_k (am_i2b_k hb hb2) (fun z hz _ _ => ?_)
  rw [hz]
  refine ⟨_, by decide, Or.inr ⟨(am_kk hB rfl), by omega, by omega⟩, ⟨by omega, by omega⟩, (am_kk hB rfl), am_nm_k ((am_u_ne (by decide)).trans h1) ?_⟩
  rintro _ rfl _ _
  refine am_ar_i (by omega) (by omega) ⟨⟨by decide, (am_kk hB rfl)⟩, post _ (fun a j h3 h4 => ?_) ⟨?_, ?_⟩⟩
  · rw [am_u_off h3, am_u_ne h4]
  · rw [am_u_kk, List.length_append]; show (L.length : Int) + 1 = ((L.length + 1 : Nat) : Int); omega
  · rw [am_u_row (by decide)]
    show lkI (am_u I 135 L.length b 135) 0 (L ++ [b])
    refine lkI_app _ _ (lkI_fr _ _ h2 (fun j _ hj => am_u_kn (by omega))) ?_
    rw [Nat.zero_add]; exact am_u_kk
theorem xl_refl : xl_fr I I := fun _ _ _ => rfl
theorem xl_trans {I1 I2 : Nat → Nat → Int} (h : xl_fr I I1) (h' : xl_fr I1 I2) : xl_fr I I2 := fun a g1 g2 => (h' a g1 g2).trans (h a g1 g2)
theorem ml_refl : ml_fr I I := fun _ _ _ _ => rfl
theorem ml_trans {I1 I2 : Nat → Nat → Int} (h : ml_fr I I1) (h' : ml_fr I1 I2) : ml_fr I I2 := fun a j g1 g2 => (h' a j g1 g2).trans (h a j g1 g2)
theorem drop_cases {l : List Int} {q : Nat} : (l.drop q = [] ∧ l.drop (q + 1) = []) ∨ ∃ x : Int, x ∈ l ∧ l.drop q = x :: l.drop (q + 1) := by
  rcases Nat.lt_or_ge q l.length with h | h
  · exact Or.inr ⟨l[q], List.getElem_mem h, List.drop_eq_getElem_cons h⟩
  · exact Or.inl ⟨List.drop_eq_nil_of_le h, List.drop_eq_nil_of_le (by omega)⟩
theorem x_putName {l : List Int} (hB : am_B C R) (hL : xl L I) (hl : L.length + l.length ≤ 1200) (hok : wl_ok l) (post : ∀ I' : Nat → Nat → Int, xl_fr I I' → xl (L ++ l.reverse) I' → Q none (n0, C, I', J, R)) : am_WP (d + 1) (am_entry 105 [.inr (.inl 32), .inr (.inr (some (wl_2 l)))] (n0, C, I, J, R)) Q := by
  obtain ⟨o1, o2, o3⟩ := hok
  have w0 := (wl_pos l o1).2.1
  have w1 := wl2_lt l 8 o1 o3
  have w1 : wl_2 l < 1099511627776 := w1
  have loop : ∀ (q : Nat) (x4 : am_V) (I1 : Nat → Nat → Int), q ≤ 8 → xl_fr I I1 → xl (L ++ (l.drop q).reverse) I1 → am_WP (d + 1) (105, 3, [.inr (.inl 32), .inr (.inr (some (wl_2 l))), am_o, .inl (5 * (q : Int) - 5), am_o], [], (0, 0), n0, C, I1, J, R) Q := by
    intro q
    induction q with
    | zero =>
      intro x4 I1 hq hf hx
      exact s_Line_putName_3 ⟨fun _ => post I1 hf hx, fun h => absurd h (by omega)⟩
    | succ q ih =>
      intro x4 I1 hq hf hx
      have es : 5 * ((q + 1 : Nat) : Int) - 5 = ((5 * q : Nat) : Int) := by omega
      have dg := am_dig (x := wl_2 l) (q := 5 * q) (b := 5) w0 (by omega) (by omega) (by decide)
      have dg : am_land (am_lshr (wl_2 l) ((5 * q : Nat) : Int)) 31 = wl_2 l / ((2 ^ (5 * q) : Nat) : Int) % 32 := dg
      have e32 : ((2 ^ (5 * q) : Nat) : Int) = 32 ^ q := by rw [Nat.pow_mul]; simp
      rw [e32, wl2_div q l o1] at dg
      have lenq : (L ++ (l.drop (q + 1)).reverse).length + (if l.drop q = [] then 0 else 1) ≤ 1200 := by
        rw [List.length_append, List.length_reverse, List.length_drop]
        by_cases e : l.drop q = []
        · rw [if_pos e]; omega
        · rw [if_neg e]
          have : q < l.length := by
            rcases Nat.lt_or_ge q l.length with h | h
            · exact h
            · exact absurd (List.drop_eq_nil_of_le h) e
          omega
      rw [es]
      refine s_Line_putName_3 ⟨fun h => absurd h (by omega), fun _ => (fun z1 hz1 _ _ => ?_)⟩
      rw [hz1]
      refine (fun z2 hz2 _ _ => ?_)
      rw [hz2, dg]
      have back : ∀ (z3 : Int) (I2 : Nat → Nat → Int), xl_fr I I2 → xl (L ++ (l.drop q).reverse) I2 → am_WP (d + 1) (105, 33, [.inr (.inl 32), .inr (.inr (some (wl_2 l))), am_o, .inl ((5 * q : Nat) : Int), .inl z3], [], (0, 0), n0, C, I2, J, R) Q := by
        intro z3 I2 f2 h2
        refine s_Line_putName_33 (am_ar_i (by omega) (by omega) ?_)
        have go := ih am_o I2 (by omega) f2 h2
        rw [show 5 * (q : Int) - 5 = ((5 * q : Nat) : Int) + -5 by omega] at go
        exact am_WP.forget go _ (am_le_eq (am_le_eq (am_le_o (am_le_eq (am_le_o am_le_nil)))))
      rcases drop_cases (l := l) (q := q) with ⟨c1, c2⟩ | ⟨x, c1, c2⟩
      · rw [c1]
        refine am_nm_k (show am_l2i (wl_2 [] % 32) = 0 by decide) ?_
        rintro _ rfl _ _
        refine ⟨fun _ => back 0 I1 hf ?_, fun h => absurd h (by decide)⟩
        rw [c1]; rw [c2] at hx; exact hx
      · have xs := o1 x c1
        unfold tb_small at xs
        have e0 : wl_2 (l.drop q) % 32 = x - 96 := by
          rw [c2]
          show (32 * wl_2 (l.drop (q + 1)) + x % 32) % 32 = x - 96
          omega
        rw [e0]
        refine am_nm_k (am_l2i_k (by omega)) (fun z3 hz3 _ _ => ?_)
        rw [hz3]
        refine ⟨fun h => absurd h (by omega), fun _ => am_ar_i (by omega) (by omega) (am_ar_i (by omega) (by omega) ⟨(am_kk hB rfl), ?_⟩)⟩
        rw [show 97 + (x - 96) - 1 = x by omega]
        rw [if_neg (by rw [c2]; simp)] at lenq
        refine x_put hB hx (by omega) (fun I2 f2 h2 => ⟨rfl, back _ I2 (xl_trans hf f2) ?_⟩)
        rw [c2, List.reverse_cons, ← List.append_assoc]; exact h2
  refine e_Line_putName ?_
  have := loop 8 am_o I (Nat.le_refl _) xl_refl (by rw [List.drop_eq_nil_of_le o3, List.reverse_nil, List.append_nil]; exact hL)
  exact this
theorem m_sayCon {l : List Int} {s c : Nat} (hB : am_B C R) (hs : I 101 14 = (s : Int)) (s2 : s < 2) (hc : c < 36) (hJ : J 110 (36 * s + c) = wl_6 l) (hL : ml L I) (hl : L.length + l.length ≤ 3000) (hok : wl_ok l) (post : ∀ I' : Nat → Nat → Int, ml_fr I I' → ml (L ++ l.reverse) I' → Q none (n0, C, I', J, R)) : am_WP (d + 1) (am_entry 71 [.inr (.inl 101), .inl (c : Int)] (n0, C, I, J, R)) Q := by
  obtain ⟨o1, o2, o3⟩ := hok
  have w0 := (wl_pos l o1).1
  have w1 := wl6_lt l 7 o1 o3
  have w1 : wl_6 l < 9223372036854775808 := w1
  have loop : ∀ (q : Nat) (I1 : Nat → Nat → Int), q ≤ 8 → ml_fr I I1 → ml (L ++ (l.drop q).reverse) I1 → am_WP (d + 1) (71, 19, [.inr (.inl 101), .inl (c : Int), .inr (.inr (some (wl_6 l))), am_o, .inl (8 * (q : Int) - 8)], [], (0, 0), n0, C, I1, J, R) Q := by
    intro q
    induction q with
    | zero =>
      intro I1 hq hf hx
      exact s_M_sayCon_19 ⟨fun _ => post I1 hf hx, fun h => absurd h (by omega)⟩
    | succ q ih =>
      intro I1 hq hf hx
      have es : 8 * ((q + 1 : Nat) : Int) - 8 = ((8 * q : Nat) : Int) := by omega
      have dg := am_dig (x := wl_6 l) (q := 8 * q) (b := 8) w0 w1 (by omega) (by decide)
      have dg : am_land (am_lshr (wl_6 l) ((8 * q : Nat) : Int)) 255 = wl_6 l / ((2 ^ (8 * q) : Nat) : Int) % 256 := dg
      have e32 : ((2 ^ (8 * q) : Nat) : Int) = 256 ^ q := by rw [Nat.pow_mul]; simp
      rw [e32, wl6_div q l o1] at dg
      have lenq : (L ++ (l.drop (q + 1)).reverse).length + (if l.drop q = [] then 0 else 1) ≤ 3000 := by
        rw [List.length_append, List.length_reverse, List.length_drop]
        by_cases e : l.drop q = []
        · rw [if_pos e]; omega
        · rw [if_neg e]
          have : q < l.length := by
            rcases Nat.lt_or_ge q l.length with h | h
            · exact h
            · exact absurd (List.drop_eq_nil_of_le h) e
          omega
      rw [es]
      have back : ∀ (I2 : Nat → Nat → Int), ml_fr I I2 → ml (L ++ (l.drop q).reverse) I2 → am_WP (d + 1) (71, 50, [.inr (.inl 101), .inl (c : Int), .inr (.inr (some (wl_6 l))), am_o, .inl ((8 * q : Nat) : Int)], [], (0, 0), n0, C, I2, J, R) Q := by
        intro I2 f2 h2
        refine s_M_sayCon_50 (am_ar_i (by omega) (by omega) ?_)
        have go := ih I2 (by omega) f2 h2
        rw [show 8 * (q : Int) - 8 = ((8 * q : Nat) : Int) + -8 by omega] at go
        exact go
      refine s_M_sayCon_19 ⟨fun h => absurd h (by omega), fun _ => (fun z1 hz1 _ _ => ?_)⟩
      rw [hz1]
      refine (fun z2 hz2 _ _ => ?_)
      rw [hz2, dg]
      refine (fun z3 hz3 _ _ => ?_)
      rcases drop_cases (l := l) (q := q) with ⟨c1, c2⟩ | ⟨x, c1, c2⟩
      · have e0 : wl_6 (l.drop q) % 256 = 0 := by rw [c1]; rfl
        rw [e0] at hz3
        refine ⟨fun _ => back I1 hf ?_, fun h => absurd (hz3.trans (am_lc0.mpr rfl)) h⟩
        rw [c1]; rw [c2] at hx; exact hx
      · have xs := o1 x c1
        unfold tb_small at xs
        have e0 : wl_6 (l.drop q) % 256 = x := by
          rw [c2]
          show (wl_6 (l.drop (q + 1)) * 256 + x) % 256 = x
          omega
        rw [e0] at hz3
        refine ⟨fun h => ?_, fun _ => (fun z4 hz4 _ _ => ?_)⟩
        · rw [hz3] at h
          have := am_lc0.mp h
          omega
        · rw [hz4]
          refine (fun z5 hz5 _ _ => ?_)
          rw [hz5, dg, e0]
          refine am_nm_k (am_l2i_k (by omega)) (fun z6 hz6 _ _ => ⟨(am_kk hB rfl), ?_⟩)
          rw [hz6]
          rw [if_neg (by rw [c2]; simp)] at lenq
          refine m_say hB hx (by omega) (by omega) (by omega) (fun I2 f2 h2 => ⟨rfl, back I2 (ml_trans hf f2) ?_⟩)
          rw [c2, List.reverse_cons, ← List.append_assoc]; exact h2
  refine e_M_sayCon ⟨(am_kk hB rfl), 110, (am_rf hB rfl), (am_kk hB rfl), am_nm_k hs ?_⟩
  rintro _ rfl _ _
  refine am_ar_i (by omega) (by omega) (am_ar_i (by omega) (by omega) ?_)
  rw [show (36 : Int) * (s : Int) + (c : Int) = ((36 * s + c : Nat) : Int) by omega]
  refine ⟨_, by decide, (am_kk hB rfl), ⟨by omega, by omega⟩, (fun z hz _ _ => ?_)⟩
  have hz : z = J 110 (36 * s + c) := hz
  rw [hz, hJ]
  have := loop 8 I (Nat.le_refl _) ml_refl (by rw [List.drop_eq_nil_of_le o3, List.reverse_nil, List.append_nil]; exact hL)
  exact this
theorem x_putNumber {n : Int} (hB : am_B C R) (hn : 0 ≤ n) (hn2 : n ≤ 999) (hL : xl L I) (hl : L.length + (digs n).length ≤ 1200) (post : ∀ I' : Nat → Nat → Int, xl_fr I I' → xl (L ++ digs n) I' → Q none (n0, C, I', J, R)) : am_WP (d + 1) (am_entry 104 [.inr (.inl 32), .inl n] (n0, C, I, J, R)) Q := by
  unfold digs at hl post
  rw [List.length_append, List.length_append] at hl
  have l1 : ∀ x : Int, [x].length = 1 := fun _ => rfl
  rw [l1] at hl
  have last : ∀ (L' : List Int) (I1 : Nat → Nat → Int), xl_fr I I1 → xl L' I1 → L'.length < 1200 → L ++ ((if 99 < n then [48 + n / 100 % 10] else []) ++ ((if 9 < n then [48 + n / 10 % 10] else []) ++ [48 + n % 10])) = L' ++ [48 + n % 10] → am_WP (d + 1) (104, 40, [.inr (.inl 32), .inl n], [], (0, 0), n0, C, I1, J, R) Q := by
    intro L' I1 hf hx hl' he
    refine s_Line_putNumber_40 ⟨by decide, am_nm_k (am_rem_e ⟨hn, by omega⟩ (by decide)) (fun z hz _ _ => am_ar_i (by omega) (by omega) ⟨(am_kk hB rfl), ?_⟩)⟩
    rw [hz]
    refine x_put hB hx hl' (fun I2 f2 h2 => ⟨rfl, s_Line_putNumber_51 (post I2 (xl_trans hf f2) ?_)⟩)
    rw [he]; exact h2
  have mid : ∀ (L' : List Int) (I1 : Nat → Nat → Int), xl_fr I I1 → xl L' I1 → L'.length + ((if 9 < n then [48 + n / 10 % 10] else []).length + 1) ≤ 1200 → L ++ ((if 99 < n then [48 + n / 100 % 10] else []) ++ ((if 9 < n then [48 + n / 10 % 10] else []) ++ [48 + n % 10])) = L' ++ ((if 9 < n then [48 + n / 10 % 10] else []) ++ [48 + n % 10]) → am_WP (d + 1) (104, 20, [.inr (.inl 32), .inl n], [], (0, 0), n0, C, I1, J, R) Q := by
    intro L' I1 hf hx hl' he
    refine s_Line_putNumber_20 ⟨fun h => ?_, fun h => ?_⟩
    · rw [if_neg (show ¬ 9 < n by omega)] at hl' he
      refine last L' I1 hf hx (by show L'.length < 1200; have : ([] : List Int).length = 0 := rfl; omega) ?_
      rw [if_neg (show ¬ 9 < n by omega)]; exact he
    · rw [if_pos h] at hl' he
      rw [l1] at hl'
      refine ⟨by decide, am_nm_k (am_div_e ⟨hn, by omega⟩ (by decide)) (fun z hz _ _ => ⟨by decide, am_nm_k (am_rem_e ⟨by omega, by omega⟩ (by decide)) (fun z2 hz2 _ _ => am_ar_i (by omega) (by omega) ⟨(am_kk hB rfl), ?_⟩)⟩)⟩
      rw [hz2, hz]
      refine x_put hB hx (by omega) (fun I2 f2 h2 => ⟨rfl, last _ I2 (xl_trans hf f2) h2 ?_ ?_⟩)
      · rw [List.length_append, l1]; omega
      · rw [if_pos h, List.append_assoc]; exact he
  refine e_Line_putNumber ⟨fun h => ?_, fun h => ?_⟩
  · rw [if_neg (show ¬ 99 < n by omega)] at hl
    refine mid L I xl_refl hL ?_ ?_
    · have : ([] : List Int).length = 0 := rfl
      omega
    · rw [if_neg (show ¬ 99 < n by omega), List.nil_append]
  · rw [if_pos h, l1] at hl
    refine ⟨by decide, am_nm_k (am_div_e ⟨hn, by omega⟩ (by decide)) (fun z hz _ _ => ⟨by decide, am_nm_k (am_rem_e ⟨by omega, by omega⟩ (by decide)) (fun z2 hz2 _ _ => am_ar_i (by omega) (by omega) ⟨(am_kk hB rfl), ?_⟩)⟩)⟩
    rw [hz2, hz]
    refine x_put hB hL (by omega) (fun I2 f2 h2 => ⟨rfl, mid _ I2 f2 h2 ?_ ?_⟩)
    · rw [List.length_append, l1]; omega
    · rw [if_pos h, List.append_assoc]
theorem m_sayNumber {n : Int} (hB : am_B C R) (hn : 0 ≤ n) (hn2 : n ≤ 999) (hL : ml L I) (hl : L.length + (digs n).length ≤ 3000) (post : ∀ I' : Nat → Nat → Int, ml_fr I I' → ml (L ++ digs n) I' → Q none (n0, C, I', J, R)) : am_WP (d + 1) (am_entry 74 [.inr (.inl 101), .inl n] (n0, C, I, J, R)) Q := by
  unfold digs at hl post
  rw [List.length_append, List.length_append] at hl
  have l1 : ∀ x : Int, [x].length = 1 := fun _ => rfl
  rw [l1] at hl
  have last : ∀ (L' : List Int) (I1 : Nat → Nat → Int), ml_fr I I1 → ml L' I1 → L'.length < 3000 → L ++ ((if 99 < n then [48 + n / 100 % 10] else []) ++ ((if 9 < n then [48 + n / 10 % 10] else []) ++ [48 + n % 10])) = L' ++ [48 + n % 10] → am_WP (d + 1) (74, 37, [.inr (.inl 101), .inl n], [], (0, 0), n0, C, I1, J, R) Q := by
    intro L' I1 hf hx hl' he
    refine s_M_sayNumber_37 ⟨by decide, am_nm_k (am_rem_e ⟨hn, by omega⟩ (by decide)) (fun z hz _ _ => am_ar_i (by omega) (by omega) ⟨(am_kk hB rfl), ?_⟩)⟩
    rw [hz]
    refine m_say hB hx hl' (by omega) (by omega) (fun I2 f2 h2 => ⟨rfl, s_M_sayNumber_48 (post I2 (ml_trans hf f2) ?_)⟩)
    rw [he]; exact h2
  have mid : ∀ (L' : List Int) (I1 : Nat → Nat → Int), ml_fr I I1 → ml L' I1 → L'.length + ((if 9 < n then [48 + n / 10 % 10] else []).length + 1) ≤ 3000 → L ++ ((if 99 < n then [48 + n / 100 % 10] else []) ++ ((if 9 < n then [48 + n / 10 % 10] else []) ++ [48 + n % 10])) = L' ++ ((if 9 < n then [48 + n / 10 % 10] else []) ++ [48 + n % 10]) → am_WP (d + 1) (74, 17, [.inr (.inl 101), .inl n], [], (0, 0), n0, C, I1, J, R) Q := by
    intro L' I1 hf hx hl' he
    refine s_M_sayNumber_17 ⟨fun h => ?_, fun h => ?_⟩
    · rw [if_neg (show ¬ 9 < n by omega)] at hl' he
      refine last L' I1 hf hx (by show L'.length < 3000; have : ([] : List Int).length = 0 := rfl; omega) ?_
      rw [if_neg (show ¬ 9 < n by omega)]; exact he
    · rw [if_pos h] at hl' he
      rw [l1] at hl'
      refine ⟨by decide, am_nm_k (am_div_e ⟨hn, by omega⟩ (by decide)) (fun z hz _ _ => ⟨by decide, am_nm_k (am_rem_e ⟨by omega, by omega⟩ (by decide)) (fun z2 hz2 _ _ => am_ar_i (by omega) (by omega) ⟨(am_kk hB rfl), ?_⟩)⟩)⟩
      rw [hz2, hz]
      refine m_say hB hx (by omega) (by omega) (by omega) (fun I2 f2 h2 => ⟨rfl, last _ I2 (ml_trans hf f2) h2 ?_ ?_⟩)
      · rw [List.length_append, l1]; omega
      · rw [if_pos h, List.append_assoc]; exact he
  refine e_M_sayNumber ⟨fun h => ?_, fun h => ?_⟩
  · rw [if_neg (show ¬ 99 < n by omega)] at hl
    refine mid L I ml_refl hL ?_ ?_
    · have : ([] : List Int).length = 0 := rfl
      omega
    · rw [if_neg (show ¬ 99 < n by omega), List.nil_append]
  · rw [if_pos h, l1] at hl
    refine ⟨by decide, am_nm_k (am_div_e ⟨hn, by omega⟩ (by decide)) (fun z hz _ _ => am_ar_i (by omega) (by omega) ⟨(am_kk hB rfl), ?_⟩)⟩
    rw [hz]
    refine m_say hB hL (by omega) (by omega) (by omega) (fun I2 f2 h2 => ⟨rfl, mid _ I2 f2 h2 ?_ ?_⟩)
    · rw [List.length_append, l1]; omega
    · rw [if_pos h, List.append_assoc, show n / 100 % 10 = n / 100 by omega]
end TXT
