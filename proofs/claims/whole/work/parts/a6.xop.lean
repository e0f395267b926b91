/-! SEARCH: the class's calls -/
def rsg (ws : List rw0) (ρ : Nat) : Bool := match ws[ρ]? with
  | some w => w.2.1
  | none => false
theorem rsg_at {ws : List rw0} {ρ : Nat} {w : rw0} (h : ws[ρ]? = some w) : rsg ws ρ = w.2.1 := by unfold rsg; rw [h]
theorem xw_bits_at {p : Nat → Bool} : ∀ (ws : List rw0) (k : Nat), xw_bits p k ws → ∀ ρ : Nat, ρ < ws.length → p (k + ρ) = !(rsg ws ρ) := by
  intro ws
  induction ws with
  | nil => intro k _ ρ h; exact absurd h (Nat.not_lt_zero ρ)
  | cons w ws ih =>
    intro k h ρ hρ
    cases ρ with
    | zero => exact h.1
    | succ ρ =>
      have := ih (k + 1) h.2 ρ (by have : ρ + 1 < ws.length + 1 := hρ; omega)
      rw [show k + (ρ + 1) = k + 1 + ρ by omega, this]
      rfl
theorem mk_12 {p : Nat → Bool} {n : Nat} (h : n ≤ 12) : mk p n = mk (fun ρ => decide (ρ < n) && p ρ) 12 := by
  apply Nat.eq_of_testBit_eq
  intro i
  rw [mk_bit, mk_bit]
  by_cases e : i < n
  · have : i < 12 := by omega
    simp [e, this]
  · simp [e]
theorem mk_lo12 {p : Nat → Bool} {n ρ : Nat} (h : n ≤ 12) : mk p n &&& (2 ^ ρ - 1) = mk (fun i => decide (i < ρ) && (decide (i < n) && p i)) 12 := by
  apply Nat.eq_of_testBit_eq
  intro i
  rw [Nat.testBit_and, mk_bit, Nat.testBit_two_pow_sub_one, mk_bit]
  by_cases e : i < n
  · have : i < 12 := by omega
    simp [e, this, Bool.and_comm]
  · simp [e]
/-- what a row asks for, settled so -/
def kfl : List (Nat × Int) → (Nat → Int) → Nat → Int
  | [], K => K
  | x :: B, K => kfl B (ku K x.1 x.2)
section KFL
variable {a : Nat → List (Nat × Int)} {nr : Nat} {tw : Int → Nat} {vd : Int → Prop}
theorem ku_same {K : Nat → Int} {p : Nat} {v : Int} (h : K p = v) : ku K p v = K := by
  funext z
  by_cases e : z = p
  · rw [e, ku_eq, h]
  · exact ku_ne e
theorem kfl_ok {ρ : Nat} (hA : aOk a nr tw vd) (hρ : ρ < nr) : ∀ (B P : List (Nat × Int)) (K : Nat → Int), a ρ = P ++ B → aOrd P B → (∀ y ∈ P, K y.1 = y.2) → (∀ q : Nat, K q ≠ -1 → (q, K q) ∈ P) → clo K → typ a nr tw vd K → clo (kfl B K) ∧ typ a nr tw vd (kfl B K) := by
  intro B
  induction B with
  | nil => intro P K _ _ _ _ h1 h2; exact ⟨h1, h2⟩
  | cons x B ih =>
    intro P K he ho hP hK hc ht
    have hx : x ∈ a ρ := by rw [he]; simp
    have hx1 := hA.1 ρ hρ x hx
    have sP : ∀ y ∈ P, y ∈ a ρ := fun y hy => by rw [he]; exact List.mem_append_left _ hy
    have key : (K x.1 = -1 ∨ K x.1 = x.2) ∧ clo (ku K x.1 x.2) ∧ typ a nr tw vd (ku K x.1 x.2) := by
      by_cases e : K x.1 = -1
      · refine ⟨Or.inl e, ct_ku hA hc ht hρ (p := x.1) (w := x.2) hx e ?_ hx1.2.1 rfl⟩
        rcases Nat.lt_or_ge 4 x.1 with h4 | h4
        · obtain ⟨c, hc'⟩ := ho.1 h4
          exact Or.inr ⟨c, sP _ hc', hP _ hc'⟩
        · exact Or.inl h4
      · have e2 : K x.1 = x.2 := by
          have := hA.2.1 ρ hρ _ (sP _ (hK x.1 e)) x hx rfl
          exact this
        rw [ku_same e2]
        exact ⟨Or.inr e2, hc, ht⟩
    refine ih (P ++ [x]) (ku K x.1 x.2) (by rw [he, List.append_assoc]; rfl) ho.2 (fun y hy => ?_) (fun q hq => ?_) key.2.1 key.2.2
    · by_cases e : y.1 = x.1
      · rw [e, ku_eq]
        have hy2 : y ∈ a ρ := by
          rcases List.mem_append.mp hy with h | h
          · exact sP y h
          · have : y = x := by simpa using h
            rw [this]; exact hx
        exact hA.2.1 ρ hρ x hx y hy2 e.symm
      · rw [ku_ne e]
        rcases List.mem_append.mp hy with h | h
        · exact hP y h
        · have : y = x := by simpa using h
          exact absurd (by rw [this]) e
    · by_cases e : q = x.1
      · rw [e, ku_eq]; exact List.mem_append_right _ (by simp)
      · rw [ku_ne e] at hq ⊢
        exact List.mem_append_left _ (hK q hq)
theorem kfl_0 {ρ : Nat} (hA : aOk a nr tw vd) (hρ : ρ < nr) (ho : aOrd [] (a ρ)) : clo (kfl (a ρ) (fun _ => -1)) ∧ typ a nr tw vd (kfl (a ρ) (fun _ => -1)) := kfl_ok hA hρ (a ρ) [] (fun _ => -1) rfl ho (fun y hy => absurd hy (by simp)) (fun q hq => absurd rfl hq) (fun q hq _ => absurd rfl hq) (fun ρ' _ x _ hq _ => absurd rfl hq)
theorem clo_0 : clo (fun _ => -1) := fun q hq _ => absurd rfl hq
theorem typ_0 : typ a nr tw vd (fun _ => -1) := fun ρ' _ x _ hq _ => absurd rfl hq
end KFL
/-- the tables of a set that has been read -/
def Sx (I J : Nat → Nat → Int) (r s : Nat) (ws : List rw0) (N m wd : Nat) (nmL : Nat → List Int) : Prop := (r = 41 ∨ r = 71) ∧ rE I (I (r + 8)) (I (r + 26)) r s N m wd ∧ tyS I r N m ∧ 1 ≤ wd ∧ 0 < ws.length ∧ ws.length ≤ 12 ∧ rs_sz ws ≤ 60 ∧ (∀ w ∈ ws, rw_ok w) ∧ rsf (fx (J (r + 7)) m) (I (r + 5)) (I (r + 6)) (I (r + 8)) (I (r + 26)) wd ws = none ∧ (∀ c : Nat, c < m → wl_ok (nmL c) ∧ J (r + 7) c = wl_2 (nmL c)) ∧ (∀ c : Nat, 0 < (nmL c).length ∧ (nmL c).length ≤ 8) ∧ I r 2 = (wd : Int) ∧ I r 3 = (ws.length : Int) ∧ (∃ p : Nat → Bool, I r 4 = ((mk p ws.length : Nat) : Int) ∧ xw_bits p 0 ws) ∧ xw_rows I J r 0 0 ws ∧ rs_G I (r + 15) (fx (J (r + 7)) m) 0 ws
/-- what its rows ask for -/
def Sa (I J : Nat → Nat → Int) (r m : Nat) (ws : List rw0) : Nat → List (Nat × Int) := ak (acR (fx (J (r + 7)) m) (nwc I r) ws)
/-- how the class keeps that -/
def sAk (a : Nat → List (Nat × Int)) (len : Nat) (I : Nat → Nat → Int) : Prop := ∃ ns : Nat, xaC a (fun ρ => bgs a (min ρ len)) ns (bgs a len) I ∧ ∀ ρ : Nat, ρ ≤ len → I 38 ρ = (bgs a ρ : Int)
theorem cE_of {F : Nat → Nat → Int} {aT W : Nat → Int} {r s N m wd : Nat} (hE : rE F aT W r s N m wd) (hTy : tyS F r N m) : ∃ Ic : Nat → Nat → Int, cE F r 0 N m Ic := by
  obtain ⟨e1, e2, e3, e4, e5, e6, e7⟩ := hE
  refine ⟨fun x j => if x = 109 then (m : Int) else F (r + 9) (F (r + 5) j).toNat, e2, e3, if_pos rfl, fun c hc => ?_, fun T hT => ⟨(e5 T hT).2.1, (e5 T hT).2.2.1⟩, fun T T' hT hT' h => ?_, hTy⟩
  · obtain ⟨⟨T, hT, hcT, -⟩, -⟩ := e6 c hc
    refine ⟨T, hT, hcT, ?_⟩
    show (if (111 : Nat) = 109 then (m : Int) else F (r + 9) (F (r + 5) (36 * 0 + c)).toNat) = _
    rw [if_neg (by decide), show 36 * 0 + c = c by omega, hcT, Int.toNat_natCast]
  · have h1 := (e5 T hT).1
    have h2 := (e5 T' hT').1
    rw [h] at h1
    have := h1.symm.trans h2
    omega
section XOP
variable {d n0 : Nat} {C : Nat → am_K} {I J : Nat → Nat → Int} {R : Nat → Nat → Option Nat} {Q : am_Q} {r s N m wd : Nat} {ws : List rw0} {nmL : Nat → List Int}
theorem Sx_ok (h : Sx I J r s ws N m wd nmL) : aOk (Sa I J r m ws) ws.length (twf I r) (vdf m) ∧ (∀ ρ : Nat, ρ < ws.length → aOrd [] (Sa I J r m ws ρ)) ∧ (∀ ρ : Nat, ρ < ws.length → ∀ x ∈ Sa I J r m ws ρ, x.2 ≤ 1099) ∧ (∀ ρ : Nat, cns (Sa I J r m ws ρ)) ∧ (∀ ρ : Nat, ∀ x ∈ Sa I J r m ws ρ, x.1 < 65536) ∧ (∀ ρ : Nat, ws.length ≤ ρ → Sa I J r m ws ρ = []) ∧ bgs (Sa I J r m ws) ws.length ≤ 60 ∧ ∀ K : Nat → Int, opn (Sa I J r m ws) ws.length K ≤ 60 := by
  obtain ⟨hr, hE, hTy, w1, l0, l12, h60, ho, hf, -⟩ := h
  obtain ⟨a1, a2, a3, a4, a5⟩ := rows_ok (g := J (r + 7)) hE hTy ho hf
  have hb := bgs_sz (cof := fx (J (r + 7)) m) (nwf := nwc I r) (ws := ws) ws.length (Nat.le_refl _)
  have hb : bgs (Sa I J r m ws) ws.length ≤ 60 := by
    have : bgs (Sa I J r m ws) ws.length + rs_sz (ws.drop ws.length) ≤ rs_sz ws := hb
    omega
  refine ⟨a1, a2, a3, a4, a5, fun ρ hρ => ?_, hb, fun K => Nat.le_trans opn_le hb⟩
  unfold Sa ak
  rw [acR_none hρ]; rfl
theorem xE_of (h : Sx I J r s ws N m wd nmL) {ns : Nat} (hx : xaC (Sa I J r m ws) (fun ρ => bgs (Sa I J r m ws) (min ρ ws.length)) ns (bgs (Sa I J r m ws) ws.length) I) (h38 : ∀ ρ : Nat, ρ ≤ ws.length → I 38 ρ = (bgs (Sa I J r m ws) ρ : Int)) : xE I (Sa I J r m ws) (fun ρ => bgs (Sa I J r m ws) (min ρ ws.length)) ns (bgs (Sa I J r m ws) ws.length) ws.length r N m := by
  obtain ⟨a1, a2, a3, a4, a5, a6, a7, a8⟩ := Sx_ok h
  refine ⟨hx, fun ρ hρ => ⟨?_, ?_⟩, h.2.2.2.2.2.1, cE_of h.2.1 h.2.2.1, a1, a2, a6, a3⟩
  · show I 38 ρ = ((bgs (Sa I J r m ws) (min ρ ws.length) : Nat) : Int)
    rw [Nat.min_eq_left (by omega)]; exact h38 ρ (by omega)
  · show I 38 (ρ + 1) = ((bgs (Sa I J r m ws) (min ρ ws.length) + (Sa I J r m ws ρ).length : Nat) : Int)
    rw [Nat.min_eq_left (by omega), ← bgs_s]; exact h38 (ρ + 1) (by omega)
theorem x_unsettle (hB : am_B C R) (post : ∀ I' : Nat → Nat → Int, (∀ a : Nat, a ≠ 40 → I' a = I a) → (∀ i : Nat, i < 60 → I' 40 i = -1) → Q none (n0, C, I', J, R)) : am_WP d (am_entry 120 [.inr (.inl 31)] (n0, C, I, J, R)) Q := by
  have loop : ∀ (u x : Nat) (I1 : Nat → Nat → Int), x + u = 60 → (∀ a : Nat, a ≠ 40 → I1 a = I a) → (∀ i : Nat, i < x → I1 40 i = -1) → am_WP d (120, 2, [.inr (.inl 31), .inl (x : Int)], [], (0, 0), n0, C, I1, J, R) Q := by
    intro u
    induction u with
    | zero =>
      intro x I1 hx hf h
      exact s_Search_unsettle_2 ⟨fun _ => post I1 hf (fun i hi => h i (by omega)), fun h => absurd h (by omega)⟩
    | succ u ih =>
      intro x I1 hx hf h
      refine s_Search_unsettle_2 ⟨fun h => absurd h (by omega), fun _ => ⟨(am_kk hB rfl), 40, (am_rf hB rfl), _, by decide, (am_kk hB rfl), ⟨by omega, by omega⟩, am_ar_i (by omega) (by omega) (ih (x + 1) _ (by omega) (fun a ha => ?_) (fun i hi => ?_))⟩⟩
      · rw [am_u_row ha]; exact hf a ha
      · show am_u I1 40 x (-1) 40 i = -1
        rw [am_u_at]
        by_cases e : i = x
        · rw [if_pos e]
        · rw [if_neg e]; exact h i (by omega)
  exact e_Search_unsettle (loop 60 0 I (by omega) (fun _ _ => rfl) (fun i hi => absurd hi (Nat.not_lt_zero i)))
theorem x_begin {aT W : Nat → Int} (hB : am_B C R) (hr : r = 41 ∨ r = 71) (hE : rE I aT W r s N m wd) (hTy : tyS I r N m) (l0 : 0 < ws.length) (l12 : ws.length ≤ 12) (h60 : rs_sz ws ≤ 60) (g3 : I r 3 = (ws.length : Int)) (g5 : xw_rows I J r 0 0 ws) (g6 : rs_G I (r + 15) (fx (J (r + 7)) m) 0 ws) (ho : ∀ w ∈ ws, rw_ok w) (hf : rsf (fx (J (r + 7)) m) (I (r + 5)) (I (r + 6)) aT W wd ws = none) (post : ∀ I' : Nat → Nat → Int, (∀ a : Nat, ¬ (31 ≤ a ∧ a ≤ 39) → I' a = I a) → sAk (Sa I J r m ws) ws.length I' → I' 31 3 = 0 → xl [] I' → Q none (n0, C, I', J, R)) : am_WP (d + 17) (am_entry 117 [.inr (.inl 31), .inr (.inl r)] (n0, C, I, J, R)) Q := by
  refine e_Search_begin ⟨(am_kk hB rfl), 34, (am_rf hB rfl), (am_kk hB rfl), x_collect hB hr hE hTy l12 h60 g3 g5 g6 ho hf (fun ns I1 f1 hx h38 => ⟨rfl, ?_⟩)⟩
  refine s_Search_begin_8 ⟨(am_kk hB rfl), 32, (am_rf hB rfl), (am_kk hB rfl), e_Line_clear ⟨⟨by decide, (am_kk hB rfl)⟩, rfl, s_Search_begin_15 ⟨⟨by decide, (am_kk hB rfl)⟩, Or.inl rfl, post _ (fun a ha => ?_) ⟨ns, ?_, fun ρ hρ => ?_⟩ am_u_kk ⟨?_, trivial⟩⟩⟩⟩
  · rw [am_u_row (by omega), am_u_row (by omega)]; exact f1 a (by omega)
  · exact xaC_fr hx (fun x _ _ _ => by rw [am_u_row (by omega), am_u_row (by omega)])
  · rw [am_u_ne (by decide), am_u_ne (by decide)]; exact h38 ρ l0 hρ
  · rw [am_u_ne (by decide), am_u_kk]; rfl
end XOP
