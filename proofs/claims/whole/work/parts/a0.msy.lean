/-! THE EXAMPLE: the reference says it -/
abbrev it0 : Type := Int × Option (Nat × Nat × Int)
section ITM
variable (K : Nat → Int) (F : Nat → Nat → Int) (aT : Nat → Int) (r N m : Nat) (nmL : Nat → List Int)
/-- what is settled at and under a place is no deeper, and of its type -/
def AA : Nat → Nat → Int → Prop
  | 0, p, _ => K p = -1
  | n + 1, p, w => K p = -1 ∨ (if w ≠ 6 ∧ F (r + 2) w.toNat = 1 then ∀ i : Nat, (i : Int) < F (r + 6) (F (r + 3) w.toNat).toNat → AA n (p + i) (aT (3 * (F (r + 3) w.toNat).toNat + i)) else if w = 6 then 100 ≤ K p ∧ K p ≤ 1099 else 0 ≤ K p ∧ K p < (m : Int) ∧ ∀ i : Nat, (i : Int) < F (r + 6) (K p).toNat → AA n (4 * p + 1 + i) (aT (3 * (K p).toNat + i)))
def itT (x : it0) : List Int := match x.2 with
  | none => [x.1]
  | some (n, p, w) => wtx K F aT r nmL n p w
def itX : List it0 → List Int
  | [] => []
  | x :: S => itT K F aT r nmL x ++ itX S
def itC (I : Nat → Nat → Int) (k : Nat) (x : it0) : Prop := match x.2 with
  | none => I 136 k = x.1 ∧ I 137 k = -1 ∧ 0 ≤ x.1 ∧ x.1 < 128
  | some (n, p, w) => I 136 k = (p : Int) ∧ (∃ l : Int, I 137 k = l ∧ wt F r N l w) ∧ k + 7 * n ≤ 42 ∧ AA K F aT r m n p w ∧ (p + 2) * 4 ^ n ≤ 65536
def stk (I : Nat → Nat → Int) : List it0 → Prop
  | [] => True
  | x :: S => S.length ≤ 48 ∧ itC K F aT r N m I S.length x ∧ stk I S
end ITM
theorem wtx_pos {K : Nat → Int} {F : Nat → Nat → Int} {aT : Nat → Int} {r : Nat} {nmL : Nat → List Int} : ∀ (n p : Nat) (w : Int), (∀ c : Nat, 0 < (nmL c).length) → 0 < (wtx K F aT r nmL n p w).length := by
  intro n p w hl
  cases n with
  | zero => exact Nat.succ_pos _
  | succ n =>
    unfold wtx
    split
    · exact Nat.succ_pos _
    · split
      · exact Nat.succ_pos _
      · split
        · unfold digs
          rw [List.length_append, List.length_append]
          show 0 < _ + (_ + 1)
          omega
        · split
          · rw [List.length_reverse]; exact hl _
          · exact Nat.succ_pos _
def ms_fr (I I' : Nat → Nat → Int) : Prop := ∀ a j : Nat, ¬ (a = 101 ∧ (j = 54 ∨ j = 57)) → a ≠ 135 → a ≠ 136 → a ≠ 137 → I' a j = I a j
theorem ms_refl {I : Nat → Nat → Int} : ms_fr I I := fun _ _ _ _ _ _ => rfl
theorem ms_trans {I I1 I2 : Nat → Nat → Int} (h : ms_fr I I1) (h' : ms_fr I1 I2) : ms_fr I I2 := fun a j g1 g2 g3 g4 => (h' a j g1 g2 g3 g4).trans (h a j g1 g2 g3 g4)
theorem ms_ml {I I1 : Nat → Nat → Int} (h : ml_fr I I1) : ms_fr I I1 := fun a j g1 g2 _ _ => h a j (by omega) g2
theorem itC_fr {K : Nat → Int} {F : Nat → Nat → Int} {aT : Nat → Int} {r N m k : Nat} {I I' : Nat → Nat → Int} {x : it0} (h : itC K F aT r N m I k x) (h1 : I' 136 k = I 136 k) (h2 : I' 137 k = I 137 k) : itC K F aT r N m I' k x := by
  obtain ⟨b, o⟩ := x
  cases o with
  | none => exact ⟨h1.trans h.1, h2.trans h.2.1, h.2.2⟩
  | some y =>
    obtain ⟨n, p, w⟩ := y
    obtain ⟨g1, ⟨l, g2, g3⟩, g4⟩ := h
    exact ⟨h1.trans g1, ⟨l, h2.trans g2, g3⟩, g4⟩
theorem stk_fr {K : Nat → Int} {F : Nat → Nat → Int} {aT : Nat → Int} {r N m : Nat} {I I' : Nat → Nat → Int} : ∀ S : List it0, stk K F aT r N m I S → (∀ j : Nat, j < S.length → I' 136 j = I 136 j ∧ I' 137 j = I 137 j) → stk K F aT r N m I' S := by
  intro S
  induction S with
  | nil => intro _ _; exact trivial
  | cons x S ih =>
    intro h hf
    have hf : ∀ j : Nat, j < S.length + 1 → I' 136 j = I 136 j ∧ I' 137 j = I 137 j := hf
    have := hf S.length (by omega)
    exact ⟨h.1, itC_fr h.2.1 this.1 this.2, ih h.2.2 (fun j hj => hf j (by omega))⟩
theorem cE_msfr {F I0 I : Nat → Nat → Int} {r s N m : Nat} (h : cE F r s N m I0) (hf : ms_fr I0 I) : cE F r s N m I := by
  obtain ⟨c1, c2, c3, c4, c5, c6, c7⟩ := h
  refine ⟨c1, c2, (hf _ _ (by omega) (by omega) (by omega) (by omega)).trans c3, fun c hc => ?_, c5, c6, c7⟩
  obtain ⟨T, t1, t2, t3⟩ := c4 c hc
  exact ⟨T, t1, t2, (hf _ _ (by omega) (by omega) (by omega) (by omega)).trans t3⟩
section MSY
variable {d n0 : Nat} {C : Nat → am_K} {I0 J F : Nat → Nat → Int} {R : Nat → Nat → Option Nat} {K : Nat → Int} {aT W : Nat → Int} {nmL : Nat → List Int} {r s N m wd : Nat} {Q : am_Q}
/-- what the reference needs for saying -/
def mW (I0 J F : Nat → Nat → Int) (K aT W : Nat → Int) (nmL : Nat → List Int) (r s N m wd : Nat) : Prop := I0 101 14 = (s : Int) ∧ rE F aT W r s N m wd ∧ tyS F r N m ∧ cE F r s N m I0 ∧ (∀ q : Nat, q < 65536 → I0 128 q = K q) ∧ (∀ l : Nat, l < 26 → I0 107 (26 * s + l) = kx (F (r + 9)) (F (r + 2)) N (l : Int)) ∧ (∀ c : Nat, c < m → I0 112 (36 * s + c) = F (r + 6) c ∧ (∀ z : Nat, z < 3 → (z : Int) < F (r + 6) c → I0 113 (3 * (36 * s + c) + z) = F (r + 12) (3 * c + z)) ∧ wl_ok (nmL c) ∧ J 110 (36 * s + c) = wl_6 (nmL c)) ∧ ∀ c : Nat, 0 < (nmL c).length
theorem m_later {I : Nat → Nat → Int} {k : Nat} {x y : Int} (hB : am_B C R) (hk : I 101 57 = (k : Int)) (k4 : k < 400) (post : ∀ I' : Nat → Nat → Int, (∀ a j : Nat, ¬ (a = 101 ∧ j = 57) → ¬ ((a = 136 ∨ a = 137) ∧ j = k) → I' a j = I a j) → I' 101 57 = ((k + 1 : Nat) : Int) → I' 136 k = x → I' 137 k = y → Q none (n0, C, I', J, R)) : am_WP d (am_entry 72 [.inr (.inl 101), .inl x, .inl y] (n0, C, I, J, R)) Q := by
  refine e_M_later ⟨(am_kk hB rfl), 136, (am_rf hB rfl), (am_kk hB rfl), am_nm_k hk ?_⟩
  rintro _ rfl _ _
  refine ⟨_, by decide, (am_kk hB rfl), ⟨by omega, by omega⟩, (am_kk hB rfl), 137, (am_rf hB rfl), (am_kk hB rfl), am_nm_k ((am_u_ne (by decide)).trans hk) ?_⟩
  rintro _ rfl _ _
  refine ⟨_, by decide, (am_kk hB rfl), ⟨by omega, by omega⟩, (am_kk hB rfl), am_nm_k ((am_u_ne (by decide)).trans ((am_u_ne (by decide)).trans hk)) ?_⟩
  rintro _ rfl _ _
  refine am_ar_i (by omega) (by omega) ⟨⟨by decide, (am_kk hB rfl)⟩, ?_⟩
  refine post _ (fun a j h1 h2 => ?_) am_u_kk ?_ ?_
  · show am_u (am_u (am_u I 136 k x) 137 k y) 101 57 _ a j = _
    rw [am_u_off h1, am_u_off (by omega), am_u_off (by omega)]
  · show am_u (am_u (am_u I 136 k x) 137 k y) 101 57 _ 136 k = _
    rw [am_u_ne (by decide), am_u_ne (by decide), am_u_kk]
  · show am_u (am_u (am_u I 136 k x) 137 k y) 101 57 _ 137 k = _
    rw [am_u_ne (by decide), am_u_kk]
theorem m_items (hB : am_B C R) (hM : mW I0 J F K aT W nmL r s N m wd) {x1 x2 : Int} : ∀ (T : Nat) (S : List it0) (L : List Int) (I : Nat → Nat → Int), (itX K F aT r nmL S).length ≤ T → ms_fr I0 I → stk K F aT r N m I S → I 101 57 = (S.length : Int) → ml L I → L.length + (itX K F aT r nmL S).length ≤ 3000 → (∀ I' : Nat → Nat → Int, ms_fr I0 I' → ml (L ++ itX K F aT r nmL S) I' → Q none (n0, C, I', J, R)) → am_WP (d + 3) (73, 11, [.inr (.inl 101), .inl x1, .inl x2, am_o, am_o, am_o, am_o, am_o, am_o], [], (0, 0), n0, C, I, J, R) Q := by
  obtain ⟨g14, hE, hTy, hC, g128, g107, gc, gnm⟩ := hM
  have s2 := hE.1
  have hN := hE.2.1
  have hm := hE.2.2.1
  have fg : ∀ (I : Nat → Nat → Int) (y3 y4 y5 y6 y7 y8 : am_V), am_WP (d + 3) (73, 11, [.inr (.inl 101), .inl x1, .inl x2, am_o, am_o, am_o, am_o, am_o, am_o], [], (0, 0), n0, C, I, J, R) Q → am_WP (d + 3) (73, 11, [.inr (.inl 101), .inl x1, .inl x2, y3, y4, y5, y6, y7, y8], [], (0, 0), n0, C, I, J, R) Q := fun I y3 y4 y5 y6 y7 y8 h => am_WP.forget h _ (am_le_eq (am_le_eq (am_le_eq (am_le_o (am_le_o (am_le_o (am_le_o (am_le_o (am_le_o am_le_nil)))))))))
  have fg2 : ∀ (I : Nat → Nat → Int) (x3 x4 : Int) (y5 y6 y7 y8 : am_V), am_WP (d + 3) (73, 271, [.inr (.inl 101), .inl x1, .inl x2, .inl x3, .inl x4, am_o, am_o, am_o, am_o], [], (0, 0), n0, C, I, J, R) Q → am_WP (d + 3) (73, 271, [.inr (.inl 101), .inl x1, .inl x2, .inl x3, .inl x4, y5, y6, y7, y8], [], (0, 0), n0, C, I, J, R) Q := fun I x3 x4 y5 y6 y7 y8 h => am_WP.forget h _ (am_le_eq (am_le_eq (am_le_eq (am_le_eq (am_le_eq (am_le_o (am_le_o (am_le_o (am_le_o am_le_nil)))))))))
  intro T
  induction T with
  | zero =>
    intro S L I hT hf hS h57 hL hl post
    cases S with
    | nil =>
      refine s_M_sayValue_11 ⟨(am_kk hB rfl), am_nm_k h57 ?_⟩
      rintro _ rfl _ _
      refine ⟨fun _ => post I hf ?_, fun h => absurd h (by decide)⟩
      show ml (L ++ []) I
      rw [List.append_nil]; exact hL
    | cons x S =>
      exfalso
      have h1 : (itX K F aT r nmL (x :: S)).length = (itT K F aT r nmL x).length + (itX K F aT r nmL S).length := List.length_append
      have h2 : 0 < (itT K F aT r nmL x).length := by
        obtain ⟨b, o⟩ := x
        cases o with
        | none => exact Nat.succ_pos _
        | some y => obtain ⟨n, p, w⟩ := y; exact wtx_pos n p w gnm
      omega
  | succ T ih =>
    intro S L I hT hf hS h57 hL hl post
    cases S with
    | nil =>
      refine s_M_sayValue_11 ⟨(am_kk hB rfl), am_nm_k h57 ?_⟩
      rintro _ rfl _ _
      refine ⟨fun _ => post I hf ?_, fun h => absurd h (by decide)⟩
      show ml (L ++ []) I
      rw [List.append_nil]; exact hL
    | cons x S =>
      have elen : (itX K F aT r nmL (x :: S)).length = (itT K F aT r nmL x).length + (itX K F aT r nmL S).length := List.length_append
      have eX : itX K F aT r nmL (x :: S) = itT K F aT r nmL x ++ itX K F aT r nmL S := rfl
      rw [elen] at hT hl
      rw [eX] at post
      have h57 : I 101 57 = ((S.length + 1 : Nat) : Int) := h57
      obtain ⟨sl, sx, sS⟩ := hS
      -- with the top gone
      have hI1 : ∃ I1 : Nat → Nat → Int, I1 = am_u I 101 57 (S.length : Int) ∧ ms_fr I0 I1 ∧ stk K F aT r N m I1 S ∧ itC K F aT r N m I1 S.length x ∧ I1 101 57 = (S.length : Int) ∧ ml L I1 := by
        refine ⟨_, rfl, fun a j h1 h2 h3 h4 => ?_, stk_fr S sS (fun j _ => ⟨am_u_ne (by decide), am_u_ne (by decide)⟩), itC_fr sx (am_u_ne (by decide)) (am_u_ne (by decide)), am_u_kk, ?_⟩
        · rw [am_u_off (by omega)]; exact hf a j h1 h2 h3 h4
        · exact ⟨(am_u_kn (by decide)).trans hL.1, by rw [am_u_row (by decide)]; exact hL.2⟩
      obtain ⟨I1, eI1, f1, t1, c1, z57, l1⟩ := hI1
      refine s_M_sayValue_11 ⟨(am_kk hB rfl), am_nm_k h57 ?_⟩
      rintro _ rfl _ _
      refine ⟨fun h => absurd h (by omega), fun _ => ⟨(am_kk hB rfl), am_nm_k h57 ?_⟩⟩
      rintro _ rfl _ _
      refine am_ar_i (by omega) (by omega) ⟨⟨by decide, (am_kk hB rfl)⟩, (am_kk hB rfl), 136, (am_rf hB rfl), (am_kk hB rfl), ?_⟩
      rw [show ((S.length + 1 : Nat) : Int) - 1 = (S.length : Int) by omega, ← eI1]
      refine am_nm_k z57 ?_
      rintro _ rfl _ _
      obtain ⟨b, o⟩ := x
      cases o with
      | none =>
        obtain ⟨c2, c3, c4, c5⟩ := c1
        refine ⟨_, (am_kk hB rfl), ⟨by omega, by omega⟩, am_nm_k c2 (fun z hz _ _ => ?_)⟩
        rw [hz]
        refine ⟨(am_kk hB rfl), 137, (am_rf hB rfl), (am_kk hB rfl), am_nm_k z57 ?_⟩
        rintro _ rfl _ _
        refine ⟨_, (am_kk hB rfl), ⟨by omega, by omega⟩, am_nm_k c3 ?_⟩
        rintro _ rfl _ _
        refine ⟨fun h => absurd rfl h, fun _ => ⟨(am_kk hB rfl), ?_⟩⟩
        have e1 : itT K F aT r nmL (b, none) = [b] := rfl
        rw [e1] at hT hl post
        have l1' : [b].length = 1 := rfl
        rw [l1'] at hT hl
        refine m_say hB l1 (by omega) c4 c5 (fun I2 f2 h2 => ⟨rfl, s_M_sayValue_60 (s_M_sayValue_271 (fg _ _ _ _ _ _ _ (ih S (L ++ [b]) I2 (by omega) (ms_trans f1 (ms_ml f2)) (stk_fr S t1 (fun j _ => ⟨f2 _ _ (by omega) (by omega), f2 _ _ (by omega) (by omega)⟩)) ((f2 _ _ (by omega) (by omega)).trans z57) h2 ?_ (fun I3 f3 h3 => post I3 f3 ?_))))⟩)
        · rw [List.length_append]; show L.length + 1 + _ ≤ 3000; omega
        · rw [← List.append_assoc]; exact h3
      | some y =>
        obtain ⟨n, p, w⟩ := y
        obtain ⟨c2, ⟨l, c3, c4⟩, c5, c6, c7⟩ := c1
        have e1 : itT K F aT r nmL (b, some (n, p, w)) = wtx K F aT r nmL n p w := rfl
        rw [e1] at hT hl post
        have p6 : p < 65536 := by
          have : 1 ≤ 4 ^ n := Nat.one_le_pow _ _ (by decide)
          have := Nat.mul_le_mul_left (p + 2) this
          omega
        have hl25 := c4.1
        have hl25' := c4.2.1
        refine ⟨_, (am_kk hB rfl), ⟨by omega, by omega⟩, am_nm_k c2 ?_⟩
        rintro _ rfl _ _
        refine ⟨(am_kk hB rfl), 137, (am_rf hB rfl), (am_kk hB rfl), am_nm_k z57 ?_⟩
        rintro _ rfl _ _
        refine ⟨_, (am_kk hB rfl), ⟨by omega, by omega⟩, am_nm_k c3 (fun z hz _ _ => ?_)⟩
        rw [hz]
        have k128 : I1 128 p = K p := (f1 _ _ (by omega) (by omega) (by omega) (by omega)).trans (g128 p p6)
        have s14 : I1 101 14 = (s : Int) := (f1 _ _ (by omega) (by omega) (by omega) (by omega)).trans g14
        -- afterwards
        have after : ∀ (S2 : List it0) (L2 : List Int) (I2 : Nat → Nat → Int) (y3 y4 y5 y6 y7 y8 : am_V), ms_fr I0 I2 → stk K F aT r N m I2 S2 → I2 101 57 = (S2.length : Int) → ml L2 I2 → L2 ++ itX K F aT r nmL S2 = L ++ (wtx K F aT r nmL n p w ++ itX K F aT r nmL S) → L.length < L2.length → am_WP (d + 3) (73, 11, [.inr (.inl 101), .inl x1, .inl x2, y3, y4, y5, y6, y7, y8], [], (0, 0), n0, C, I2, J, R) Q := by
          intro S2 L2 I2 y3 y4 y5 y6 y7 y8 b1 b2 b3 b4 b5 b6
          have e := congrArg List.length b5
          rw [List.length_append, List.length_append, List.length_append] at e
          refine fg _ _ _ _ _ _ _ (ih S2 L2 I2 (by omega) b1 b2 b3 b4 (by omega) (fun I3 f3 h3 => post I3 f3 ?_))
          rw [b5] at h3; exact h3
        have hP2 := wtx_pos (K := K) (F := F) (aT := aT) (r := r) (nmL := nmL) n p w gnm
        refine ⟨fun _ => ⟨(am_kk hB rfl), 128, (am_rf hB rfl), _, (am_kk hB rfl), ⟨by omega, by omega⟩, am_nm_k k128 (fun zk hzk _ _ => ?_)⟩, fun h => absurd h (by omega)⟩
        rw [hzk]
        refine ⟨fun hk => ?_, fun hk => ⟨(am_kk hB rfl), ?_⟩⟩
        · -- something is settled
          cases n with
          | zero => exact absurd c6 hk
          | succ n =>
          have c6 : (if w ≠ 6 ∧ F (r + 2) w.toNat = 1 then ∀ i : Nat, (i : Int) < F (r + 6) (F (r + 3) w.toNat).toNat → AA K F aT r m n (p + i) (aT (3 * (F (r + 3) w.toNat).toNat + i)) else if w = 6 then 100 ≤ K p ∧ K p ≤ 1099 else 0 ≤ K p ∧ K p < (m : Int) ∧ ∀ i : Nat, (i : Int) < F (r + 6) (K p).toNat → AA K F aT r m n (4 * p + 1 + i) (aT (3 * (K p).toNat + i))) := by
            rcases c6 with h | h
            · exact absurd h hk
            · exact h
          have ed : wtx K F aT r nmL (n + 1) p w = (if K p = -1 then [95] else if w ≠ 6 ∧ F (r + 2) w.toNat = 1 then wcn F aT r nmL (wtx K F aT r nmL n) (F (r + 3) w.toNat).toNat p else if 100 ≤ K p then digs (K p - 100) else if F (r + 6) (K p).toNat = 0 then (nmL (K p).toNat).reverse else wcn F aT r nmL (wtx K F aT r nmL n) (K p).toNat (4 * p + 1)) := rfl
          rw [if_neg hk] at ed
          have e4 : 4 ^ (n + 1) = 4 * 4 ^ n := by rw [Nat.pow_succ]; omega
          have bd4 : (4 * p + 6) * 4 ^ n ≤ 65536 := by
            rw [e4] at c7
            have : (4 * p + 6) * 4 ^ n ≤ (4 * (p + 2)) * 4 ^ n := Nat.mul_le_mul_right _ (by omega)
            have e : (4 * (p + 2)) * 4 ^ n = (p + 2) * (4 * 4 ^ n) := by
              rw [Nat.mul_comm 4 (p + 2), Nat.mul_assoc]
            omega
          -- the parts of a constructor
          have parts : ∀ (c base : Nat) (x5 : Int), c < m → 0 < F (r + 6) c → (∀ i : Nat, (i : Int) < F (r + 6) c → AA K F aT r m n (base + i) (aT (3 * c + i))) → (x5 = 0 ∧ base = 4 * p + 1 ∨ x5 ≠ 0 ∧ base = p ∧ F (r + 6) c = 1) → (base + 5) * 4 ^ n ≤ 65536 → wtx K F aT r nmL (n + 1) p w = wcn F aT r nmL (wtx K F aT r nmL n) c base → am_WP (d + 3) (73, 163, [.inr (.inl 101), .inl x1, .inl x2, .inl (p : Int), .inl l, .inl x5, am_o, am_o, am_o], [.inl (c : Int)], (0, 0), n0, C, I1, J, R) Q := by
            intro c base x5 hc har hAA hx5 hbd ew
            obtain ⟨q1, q2, q3, q4⟩ := gc c hc
            obtain ⟨-, ar0, ar3, art⟩ := hE.2.2.2.2.2.1 c hc
            obtain ⟨ar, hara⟩ : ∃ ar : Nat, F (r + 6) c = (ar : Int) := ⟨(F (r + 6) c).toNat, by omega⟩
            have wide : I1 112 (36 * s + c) = (ar : Int) := (f1 _ _ (by omega) (by omega) (by omega) (by omega)).trans (q1.trans hara)
            have wcd : wcn F aT r nmL (wtx K F aT r nmL n) c base = 40 :: ((nmL c).reverse ++ (kds aT (wtx K F aT r nmL n) c base ar 0 ++ [41])) := by
              unfold wcn
              rw [hara, Int.toNat_natCast]
            rw [ew, wcd] at hl
            simp only [List.length_cons, List.length_append, List.length_reverse, List.length_nil] at hl
            refine s_M_sayValue_163 ⟨(am_kk hB rfl), 112, (am_rf hB rfl), (am_kk hB rfl), am_nm_k s14 ?_⟩
            rintro _ rfl _ _
            refine am_ar_i (by omega) (by omega) (am_ar_i (by omega) (by omega) ?_)
            rw [show (36 : Int) * (s : Int) + (c : Int) = ((36 * s + c : Nat) : Int) by omega]
            refine ⟨_, (am_kk hB rfl), ⟨by omega, by omega⟩, am_nm_k wide ?_⟩
            rintro _ rfl _ _
            refine ⟨fun h => absurd h (by omega), fun _ => ⟨(am_kk hB rfl), m_say hB l1 (by omega) (by decide) (by decide) (fun I2 f2 h2 => ⟨rfl, ?_⟩)⟩⟩
            have fz2 := ms_trans f1 (ms_ml f2)
            have tz2 : stk K F aT r N m I2 S := stk_fr S t1 (fun j _ => ⟨f2 _ _ (by omega) (by omega), f2 _ _ (by omega) (by omega)⟩)
            have z2 : I2 101 57 = (S.length : Int) := (f2 _ _ (by omega) (by omega)).trans z57
            refine s_M_sayValue_193 ⟨(am_kk hB rfl), m_later hB z2 (by omega) (fun I3 f3 g1 g2 g3 => ⟨rfl, s_M_sayValue_200 (am_ar_i (by omega) (by omega) ?_)⟩)⟩
            -- the kids, last first
            have loop : ∀ (i k : Nat) (S3 : List it0) (I4 : Nat → Nat → Int), i + k = ar → ms_fr I0 I4 → stk K F aT r N m I4 S3 → I4 101 57 = (S3.length : Int) → S3.length = S.length + 1 + 2 * k → ml (L ++ [40]) I4 → itX K F aT r nmL S3 = kds aT (wtx K F aT r nmL n) c base k i ++ 41 :: itX K F aT r nmL S → am_WP (d + 3) (73, 206, [.inr (.inl 101), .inl x1, .inl x2, .inl (p : Int), .inl l, .inl x5, .inl (c : Int), .inl (ar : Int), .inl ((i : Int) - 1)], [], (0, 0), n0, C, I4, J, R) Q := by
              intro i
              induction i with
              | zero =>
                intro k S3 I4 hk f4 t4 z4 len4 m4 eX4
                have hk : k = ar := by omega
                subst hk
                refine s_M_sayValue_206 ⟨fun _ => ⟨(am_kk hB rfl), m_sayCon hB ((f4 _ _ (by omega) (by omega) (by omega) (by omega)).trans g14) s2 (by omega) q4 m4 ?_ q3 (fun I5 f5 h5 => ⟨rfl, fg2 _ _ _ _ _ _ _ (s_M_sayValue_271 (after S3 _ I5 _ _ _ _ _ _ (ms_trans f4 (ms_ml f5)) (stk_fr S3 t4 (fun j _ => ⟨f5 _ _ (by omega) (by omega), f5 _ _ (by omega) (by omega)⟩)) ((f5 _ _ (by omega) (by omega)).trans z4) h5 ?_ ?_))⟩)⟩, fun h => absurd h (by omega)⟩
                · rw [List.length_append]; show L.length + 1 + _ ≤ 3000; omega
                · rw [eX4, ew, wcd]
                  simp [List.append_assoc]
                · simp only [List.length_append, List.length_cons, List.length_nil]; omega
              | succ i ihi =>
                intro k S3 I4 hk f4 t4 z4 len4 m4 eX4
                have hia : (i : Int) < F (r + 6) c := by omega
                obtain ⟨⟨at0, at25⟩, at1, at2⟩ := art i hia
                have harg : I0 113 (3 * (36 * s + c) + i) = F (r + 12) (3 * c + i) := q2 i (by omega) hia
                have pl : (base + i + 2) * 4 ^ n ≤ 65536 := Nat.le_trans (Nat.mul_le_mul_right _ (by omega)) hbd
                -- the kid and the space
                have push : am_WP (d + 3) (73, 229, [.inr (.inl 101), .inl x1, .inl x2, .inl (p : Int), .inl l, .inl x5, .inl (c : Int), .inl (ar : Int), .inl (i : Int)], [.inl ((base + i : Nat) : Int), .inr (.inl 101)], (0, 0), n0, C, I4, J, R) Q := by
                  refine s_M_sayValue_229 ⟨(am_kk hB rfl), 113, (am_rf hB rfl), (am_kk hB rfl), am_nm_k ((f4 _ _ (by omega) (by omega) (by omega) (by omega)).trans g14) ?_⟩
                  rintro _ rfl _ _
                  refine am_ar_i (by omega) (by omega) (am_ar_i (by omega) (by omega) (am_ar_i (by omega) (by omega) (am_ar_i (by omega) (by omega) ?_)))
                  rw [show (3 : Int) * (36 * (s : Int) + (c : Int)) + (i : Int) = ((3 * (36 * s + c) + i : Nat) : Int) by omega]
                  refine ⟨_, (am_kk hB rfl), ⟨by omega, by omega⟩, am_nm_k ((f4 _ _ (by omega) (by omega) (by omega) (by omega)).trans harg) (fun zl hzl _ _ => ⟨(am_kk hB rfl), ?_⟩)⟩
                  rw [hzl]
                  refine m_later hB z4 (by omega) (fun I5 f5 b1 b2 b3 => ⟨rfl, s_M_sayValue_252 ⟨(am_kk hB rfl), m_later hB b1 (by omega) (fun I6 f6 d1 d2 d3 => ⟨rfl, s_M_sayValue_259 (am_ar_i (by omega) (by omega) ?_)⟩)⟩⟩)
                  have fz6 : ms_fr I0 I6 := fun a j h1 h2 h3 h4 => (f6 a j (by omega) (by omega)).trans ((f5 a j (by omega) (by omega)).trans (f4 a j h1 h2 h3 h4))
                  have t6 : stk K F aT r N m I6 S3 := stk_fr S3 t4 (fun j hj => ⟨(f6 136 j (by omega) (by omega)).trans (f5 136 j (by omega) (by omega)), (f6 137 j (by omega) (by omega)).trans (f5 137 j (by omega) (by omega))⟩)
                  refine ihi (k + 1) ((32, none) :: (0, some (n, base + i, aT (3 * c + i))) :: S3) I6 (by omega) fz6 ⟨by show S3.length + 1 ≤ 48; omega, ⟨d2, d3, by decide, by decide⟩, by omega, ⟨(f6 136 _ (by omega) (by omega)).trans b2, ⟨_, (f6 137 _ (by omega) (by omega)).trans b3, at0, at25, at1, at2⟩, by omega, hAA i hia, pl⟩, t6⟩ d1 (by show S3.length + 1 + 1 = _; omega) ?_ ?_
                  · exact ⟨((f6 101 54 (by omega) (by omega)).trans (f5 101 54 (by omega) (by omega))).trans m4.1, lkI_fr _ _ m4.2 (fun j _ _ => (f6 135 j (by omega) (by omega)).trans (f5 135 j (by omega) (by omega)))⟩
                  · show [32] ++ (wtx K F aT r nmL n (base + i) (aT (3 * c + i)) ++ itX K F aT r nmL S3) = _
                    rw [eX4]
                    show _ = 32 :: (wtx K F aT r nmL n (base + i) (aT (3 * c + i)) ++ kds aT (wtx K F aT r nmL n) c base k (i + 1)) ++ _
                    simp [List.append_assoc]
                rw [show ((i + 1 : Nat) : Int) - 1 = (i : Int) by omega]
                refine s_M_sayValue_206 ⟨fun h => absurd h (by omega), fun _ => ⟨fun h0 => am_ar_i (by omega) (by omega) (am_ar_i (by omega) (by omega) (am_ar_i (by omega) (by omega) ?_)), fun h0 => ?_⟩⟩
                · have eb : base = 4 * p + 1 := by
                    rcases hx5 with ⟨-, q⟩ | ⟨q, -⟩
                    · exact q
                    · exact absurd h0 q
                  rw [show (4 : Int) * (p : Int) + (i : Int) + 1 = ((base + i : Nat) : Int) by omega]
                  exact push
                · have eb : base = p ∧ F (r + 6) c = 1 := by
                    rcases hx5 with ⟨q, -⟩ | ⟨-, q⟩
                    · exact absurd q h0
                    · exact q
                  have := push
                  rw [show ((base + i : Nat) : Int) = (p : Int) by omega] at this
                  exact this
            refine loop ar 0 ((41, none) :: S) I3 (by omega) (fun a j h1 h2' h3 h4 => (f3 a j (by omega) (by omega)).trans (fz2 a j h1 h2' h3 h4)) ⟨sl, ⟨g2, g3, by decide, by decide⟩, stk_fr S tz2 (fun j hj => ⟨f3 136 j (by omega) (by omega), f3 137 j (by omega) (by omega)⟩)⟩ g1 (by show S.length + 1 = _; omega) ⟨(f3 101 54 (by omega) (by omega)).trans h2.1, lkI_fr _ _ h2.2 (fun j _ _ => f3 135 j (by omega) (by omega))⟩ rfl
          have k107 : I1 107 (26 * s + l.toNat) = kx (F (r + 9)) (F (r + 2)) N l := by
            have := g107 l.toNat (by omega)
            rw [Int.toNat_of_nonneg hl25] at this
            exact (f1 _ _ (by omega) (by omega) (by omega) (by omega)).trans this
          refine ⟨(am_kk hB rfl), 107, (am_rf hB rfl), (am_kk hB rfl), am_nm_k s14 ?_⟩
          rintro _ rfl _ _
          refine am_ar_i (by omega) (by omega) (am_ar_i (by omega) (by omega) ?_)
          rw [show (26 : Int) * (s : Int) + l = ((26 * s + l.toNat : Nat) : Int) by omega]
          refine ⟨_, (am_kk hB rfl), ⟨by omega, by omega⟩, am_nm_k k107 (fun zt hzt _ _ => ?_)⟩
          rw [hzt]
          by_cases w6 : w = 6
          · -- a number
            have l8 := (wt_8 hE c4).mpr w6
            have kx8 : kx (F (r + 9)) (F (r + 2)) N l = 3 := by unfold kx; rw [if_pos l8]
            rw [kx8]
            rw [if_neg (by rintro ⟨q, -⟩; exact q w6), if_pos w6] at c6
            rw [if_neg (by rintro ⟨q, -⟩; exact q w6), if_pos c6.1] at ed
            refine ⟨fun h => absurd rfl h, fun _ => ⟨(am_kk hB rfl), 128, (am_rf hB rfl), _, (am_kk hB rfl), ⟨by omega, by omega⟩, am_nm_k k128 (fun zk2 hzk2 _ _ => am_ar_i (by omega) (by omega) ⟨(am_kk hB rfl), ?_⟩)⟩⟩
            rw [hzk2]
            refine m_sayNumber hB (by omega) (by omega) l1 (by rw [← ed]; omega) (fun I2 f2 h2 => ⟨rfl, s_M_sayValue_114 (s_M_sayValue_271 (after S _ I2 _ _ _ _ _ _ (ms_trans f1 (ms_ml f2)) (stk_fr S t1 (fun j _ => ⟨f2 _ _ (by omega) (by omega), f2 _ _ (by omega) (by omega)⟩)) ((f2 _ _ (by omega) (by omega)).trans z57) h2 ?_ ?_))⟩)
            · rw [ed, List.append_assoc]
            · rw [List.length_append, ← ed]; omega
          · -- of a type
            obtain ⟨T, hT', hwT⟩ : ∃ T : Nat, T < N ∧ w = (T : Int) := by
              have hne8 : l ≠ 8 := fun e => w6 ((wt_8 hE c4).mp e)
              obtain ⟨-, -, q1, q2⟩ := c4
              unfold lx at q1
              rw [if_neg hne8] at q1
              have := fx_rg (F (r + 9)) N l
              exact ⟨w.toNat, by omega, by omega⟩
            subst hwT
            have hlT : F (r + 9) T = l := (wt_con hE c4 hT').mpr rfl
            have hkx := kx_T hE hT'
            rw [hlT] at hkx
            rw [hkx]
            have n01 := (hE.2.2.2.2.1 T hT').2.2.2
            obtain ⟨fc, kc, y1, y2, y3, y4, y5, y6, y7⟩ := hTy T hT'
            refine ⟨fun _ => ⟨(am_kk hB rfl), 107, (am_rf hB rfl), (am_kk hB rfl), am_nm_k s14 ?_⟩, fun h => absurd h (by omega)⟩
            rintro _ rfl _ _
            refine am_ar_i (by omega) (by omega) (am_ar_i (by omega) (by omega) ?_)
            rw [show (26 : Int) * (s : Int) + l = ((26 * s + l.toNat : Nat) : Int) by omega]
            refine ⟨_, (am_kk hB rfl), ⟨by omega, by omega⟩, am_nm_k (k107.trans hkx) (fun zt2 hzt2 _ _ => ?_)⟩
            rw [hzt2]
            refine ⟨fun h2 => s_M_sayValue_141 ⟨fun _ => ⟨(am_kk hB rfl), 128, (am_rf hB rfl), _, (am_kk hB rfl), ⟨by omega, by omega⟩, am_nm_k k128 (fun zk2 hzk2 _ _ => ?_)⟩, fun h => absurd rfl h⟩, fun h2 => s_M_sayValue_141 ⟨fun h => absurd h (by decide), fun _ => ⟨(am_kk hB rfl), ?_⟩⟩⟩
            · -- not a new type
              have hnn : ¬ ((T : Int) ≠ 6 ∧ F (r + 2) ((T : Int)).toNat = 1) := by
                rintro ⟨-, q⟩
                have q : F (r + 2) T = 1 := q
                omega
              rw [if_neg hnn, if_neg w6] at c6
              rw [if_neg hnn, if_neg (by omega)] at ed
              obtain ⟨c, hc⟩ : ∃ c : Nat, K p = (c : Int) := ⟨(K p).toNat, by omega⟩
              obtain ⟨b1, b2, b3⟩ := c6
              rw [hc, Int.toNat_natCast] at b3 ed
              have hcm : c < m := by omega
              rw [hzk2, hc]
              by_cases har : F (r + 6) c = 0
              · rw [if_pos har] at ed
                obtain ⟨q1, q2, q3, q4⟩ := gc c hcm
                refine s_M_sayValue_163 ⟨(am_kk hB rfl), 112, (am_rf hB rfl), (am_kk hB rfl), am_nm_k s14 ?_⟩
                rintro _ rfl _ _
                refine am_ar_i (by omega) (by omega) (am_ar_i (by omega) (by omega) ?_)
                rw [show (36 : Int) * (s : Int) + (c : Int) = ((36 * s + c : Nat) : Int) by omega]
                refine ⟨_, (am_kk hB rfl), ⟨by omega, by omega⟩, am_nm_k ((f1 _ _ (by omega) (by omega) (by omega) (by omega)).trans (q1.trans har)) ?_⟩
                rintro _ rfl _ _
                refine ⟨fun _ => ⟨(am_kk hB rfl), m_sayCon hB s14 s2 (by omega) q4 l1 (by rw [ed, List.length_reverse] at hl; omega) q3 (fun I2 f2 h2' => ⟨rfl, fg2 _ _ _ _ _ _ _ (s_M_sayValue_271 (after S _ I2 _ _ _ _ _ _ (ms_trans f1 (ms_ml f2)) (stk_fr S t1 (fun j _ => ⟨f2 _ _ (by omega) (by omega), f2 _ _ (by omega) (by omega)⟩)) ((f2 _ _ (by omega) (by omega)).trans z57) h2' ?_ ?_))⟩)⟩, fun h => absurd h (by decide)⟩
                · rw [ed, List.append_assoc]
                · rw [List.length_append, ← ed]; omega
              · rw [if_neg har] at ed
                obtain ⟨-, ar0, -⟩ := hE.2.2.2.2.2.1 c hcm
                exact parts c (4 * p + 1) 0 hcm (by omega) b3 (Or.inl ⟨rfl, rfl⟩) bd4 ed
            · -- a new type
              have hnw : ((T : Int) ≠ 6 ∧ F (r + 2) ((T : Int)).toNat = 1) := ⟨w6, by show F (r + 2) T = 1; omega⟩
              rw [if_pos hnw, Int.toNat_natCast, y1, Int.toNat_natCast] at c6 ed
              have a1 := (y7 (by omega)).1
              rw [← hlT]
              refine m_firstCon hB s14 s2 (cE_msfr hC f1) hT' y1 ⟨_, rfl, s_M_sayValue_154 ?_⟩
              have := parts fc p 1 (by omega) (by omega) c6 (Or.inr ⟨by decide, rfl, a1⟩) (Nat.le_trans (Nat.mul_le_mul_right _ (by omega)) bd4) ed
              rw [← hlT] at this
              exact this
        · -- nothing is settled
          have ew : wtx K F aT r nmL n p w = [95] := by
            cases n with
            | zero => rfl
            | succ n => exact if_pos hk
          rw [ew] at hl
          have hl : L.length + (1 + (itX K F aT r nmL S).length) ≤ 3000 := hl
          refine m_say hB l1 (by omega) (by decide) (by decide) (fun I2 f2 h2 => ⟨rfl, s_M_sayValue_79 (s_M_sayValue_271 (after S _ I2 _ _ _ _ _ _ (ms_trans f1 (ms_ml f2)) (stk_fr S t1 (fun j _ => ⟨f2 _ _ (by omega) (by omega), f2 _ _ (by omega) (by omega)⟩)) ((f2 _ _ (by omega) (by omega)).trans z57) h2 ?_ ?_))⟩)
          · rw [ew, List.append_assoc]
          · rw [List.length_append]; show L.length < L.length + 1; omega
end MSY
