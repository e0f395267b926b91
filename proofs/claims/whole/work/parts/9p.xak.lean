/-! SEARCH: how the class holds what rows ask for -/
def ec (v : Int) : Int := if v < 100 then v else v - 64
def wa (B : List (Nat × Int)) (q : Int) : Int := match B.find? (fun x => decide ((x.1 : Int) = q)) with
  | some x => ec x.2
  | none => -1
def xal (I : Nat → Nat → Int) (ns : Nat) : Nat → List (Nat × Int) → Prop
  | _, [] => True
  | b, x :: B => (∃ i : Nat, i < ns ∧ I 36 b = (i : Int) ∧ I 35 i = (x.1 : Int)) ∧ I 37 b = ec x.2 ∧ xal I ns (b + 1) B
def xaC (a : Nat → List (Nat × Int)) (bg : Nat → Nat) (ns cnt : Nat) (I : Nat → Nat → Int) : Prop := I 34 0 = (ns : Int) ∧ I 34 1 = (cnt : Int) ∧ ns ≤ cnt ∧ cnt ≤ 60 ∧ (∀ i : Nat, i < ns → ∃ p : Nat, I 35 i = (p : Int)) ∧ (∀ i j : Nat, i < ns → j < ns → I 35 i = I 35 j → i = j) ∧ (∀ ρ : Nat, ρ < 12 → bg ρ + (a ρ).length ≤ cnt ∧ xal I ns (bg ρ) (a ρ)) ∧ ∀ ρ i : Nat, ρ < 12 → i < 60 → (i < ns → I 39 (60 * ρ + i) = wa (a ρ) (I 35 i)) ∧ (ns ≤ i → I 39 (60 * ρ + i) = -1)
def cns (B : List (Nat × Int)) : Prop := ∀ x ∈ B, ∀ y ∈ B, x.1 = y.1 → x.2 = y.2
def aup (a : Nat → List (Nat × Int)) (ρ : Nat) (B : List (Nat × Int)) : Nat → List (Nat × Int) := fun ρ' => if ρ' = ρ then a ρ ++ B else a ρ'
theorem aup_eq {a : Nat → List (Nat × Int)} {ρ : Nat} {B : List (Nat × Int)} : aup a ρ B ρ = a ρ ++ B := if_pos rfl
theorem aup_ne {a : Nat → List (Nat × Int)} {ρ ρ' : Nat} {B : List (Nat × Int)} (h : ρ' ≠ ρ) : aup a ρ B ρ' = a ρ' := if_neg h
theorem aup_nil {a : Nat → List (Nat × Int)} {ρ : Nat} : aup a ρ [] = a := by
  funext x
  by_cases e : x = ρ
  · rw [e, aup_eq, List.append_nil]
  · exact aup_ne e
theorem aup_aup {a : Nat → List (Nat × Int)} {ρ : Nat} {B B' : List (Nat × Int)} : aup (aup a ρ B) ρ B' = aup a ρ (B ++ B') := by
  funext x
  by_cases e : x = ρ
  · rw [e, aup_eq, aup_eq, aup_eq, List.append_assoc]
  · rw [aup_ne e, aup_ne e, aup_ne e]
theorem wa_none {B : List (Nat × Int)} {q : Int} (h : ∀ x ∈ B, (x.1 : Int) ≠ q) : wa B q = -1 := by
  unfold wa
  rw [List.find?_eq_none.mpr (fun x hx => by simpa using h x hx)]
theorem wa_mem {B : List (Nat × Int)} {p : Nat} {v : Int} (hc : cns B) (h : (p, v) ∈ B) : wa B (p : Int) = ec v := by
  unfold wa
  rcases hf : B.find? (fun x => decide ((x.1 : Int) = (p : Int))) with _ | x
  · have := List.find?_eq_none.mp hf _ h
    simp at this
  · have hx := List.mem_of_find?_eq_some hf
    have hp := List.find?_some hf
    have hp : (x.1 : Int) = (p : Int) := by simpa using hp
    have := hc x hx _ h (by show x.1 = p; omega)
    rw [hf]
    show ec x.2 = ec v
    rw [this]
theorem wa_app {B : List (Nat × Int)} {p : Nat} {v : Int} {q : Int} (h : q ≠ (p : Int)) : wa (B ++ [(p, v)]) q = wa B q := by
  unfold wa
  rw [List.find?_append]
  rcases hf : B.find? (fun x => decide ((x.1 : Int) = q)) with _ | x
  · have : ([(p, v)] : List (Nat × Int)).find? (fun x => decide ((x.1 : Int) = q)) = none := List.find?_eq_none.mpr (fun x hx => by
      have : x = (p, v) := by simpa using hx
      rw [this]
      simp
      omega)
    rw [this, hf]
    rfl
  · rw [hf]
    rfl
theorem xal_mem {I : Nat → Nat → Int} {ns : Nat} : ∀ (B : List (Nat × Int)) (b : Nat), xal I ns b B → ∀ x ∈ B, ∃ i : Nat, i < ns ∧ I 35 i = (x.1 : Int) := by
  intro B
  induction B with
  | nil => intro b _ x hx; exact absurd hx (by simp)
  | cons y B ih =>
    intro b h x hx
    rcases List.mem_cons.mp hx with e | e
    · obtain ⟨⟨i, h1, -, h3⟩, -⟩ := h
      exact ⟨i, h1, by rw [e]; exact h3⟩
    · exact ih (b + 1) h.2.2 x e
theorem xal_fr {I I' : Nat → Nat → Int} {ns ns' : Nat} (hn : ns ≤ ns') (h35 : ∀ i : Nat, i < ns → I' 35 i = I 35 i) : ∀ (B : List (Nat × Int)) (b : Nat), xal I ns b B → (∀ j : Nat, b ≤ j → j < b + B.length → I' 36 j = I 36 j ∧ I' 37 j = I 37 j) → xal I' ns' b B := by
  intro B
  induction B with
  | nil => intro b _ _; exact trivial
  | cons x B ih =>
    intro b h hf
    have hf : ∀ j : Nat, b ≤ j → j < b + (B.length + 1) → I' 36 j = I 36 j ∧ I' 37 j = I 37 j := hf
    obtain ⟨⟨i, h1, h2, h3⟩, h4, h5⟩ := h
    have := hf b (by omega) (by omega)
    exact ⟨⟨i, by omega, this.1.trans h2, (h35 i h1).trans h3⟩, this.2.trans h4, ih (b + 1) h5 (fun j a1 a2 => hf j (by omega) (by omega))⟩
theorem xal_app {I : Nat → Nat → Int} {ns : Nat} {x : Nat × Int} : ∀ (B : List (Nat × Int)) (b : Nat), xal I ns b B → (∃ i : Nat, i < ns ∧ I 36 (b + B.length) = (i : Int) ∧ I 35 i = (x.1 : Int)) → I 37 (b + B.length) = ec x.2 → xal I ns b (B ++ [x]) := by
  intro B
  induction B with
  | nil => intro b _ h1 h2; exact ⟨h1, h2, trivial⟩
  | cons y B ih =>
    intro b h h1 h2
    refine ⟨h.1, h.2.1, ih (b + 1) h.2.2 ?_ ?_⟩
    · rw [show b + 1 + B.length = b + (B.length + 1) by omega]; exact h1
    · rw [show b + 1 + B.length = b + (B.length + 1) by omega]; exact h2
def xq_fr (I I' : Nat → Nat → Int) : Prop := ∀ a : Nat, a < 34 ∨ a = 38 ∨ 39 < a → I' a = I a
theorem xq_refl {I : Nat → Nat → Int} : xq_fr I I := fun _ _ => rfl
theorem xq_trans {I I1 I2 : Nat → Nat → Int} (h : xq_fr I I1) (h' : xq_fr I1 I2) : xq_fr I I2 := fun a g => (h' a g).trans (h a g)
theorem xq_u {I I1 : Nat → Nat → Int} {a k : Nat} {v : Int} (h : xq_fr I I1) (ha : 34 ≤ a ∧ a ≤ 37 ∨ a = 39) : xq_fr I (am_u I1 a k v) := by
  intro b g
  rw [am_u_row (by omega)]; exact h b g
section XAK
variable {d n0 : Nat} {K : Nat → am_K} {I J : Nat → Nat → Int} {R : Nat → Nat → Option Nat} {Q : am_Q} {a : Nat → List (Nat × Int)} {bg : Nat → Nat} {ns cnt ρ p : Nat} {v : Int}
theorem x_spotOf (hB : am_B K R) (h0 : I 34 0 = (ns : Int)) (hn : ns ≤ 60) (yes : ∀ i : Nat, i < ns → I 35 i = (p : Int) → Q (some (.inl (i : Int))) (n0, K, I, J, R)) (no : (∀ i : Nat, i < ns → I 35 i ≠ (p : Int)) → Q (some (.inl (-1))) (n0, K, I, J, R)) : am_WP d (am_entry 81 [.inr (.inl 34), .inl (p : Int)] (n0, K, I, J, R)) Q := by
  have loop : ∀ (u i : Nat), i + u = ns → (∀ j : Nat, j < i → I 35 j ≠ (p : Int)) → am_WP d (81, 2, [.inr (.inl 34), .inl (p : Int), .inl (i : Int)], [], (0, 0), n0, K, I, J, R) Q := by
    intro u
    induction u with
    | zero =>
      intro i hu hno
      refine s_Asks_spotOf_2 ⟨(am_kk hB rfl), am_nm_k h0 ?_⟩
      rintro _ rfl _ _
      exact ⟨fun _ => no (fun j hj => hno j (by omega)), fun h => absurd h (by omega)⟩
    | succ u ih =>
      intro i hu hno
      refine s_Asks_spotOf_2 ⟨(am_kk hB rfl), am_nm_k h0 ?_⟩
      rintro _ rfl _ _
      refine ⟨fun h => absurd h (by omega), fun _ => ⟨(am_kk hB rfl), 35, (am_rf hB rfl), _, (am_kk hB rfl), ⟨by omega, by omega⟩, fun z hz _ _ => ?_⟩⟩
      have hz : I 35 i = z := hz.symm
      refine ⟨fun h => am_ar_i (by omega) (by omega) (ih (i + 1) (by omega) (fun j hj => ?_)), fun h => yes i (by omega) (hz.trans h)⟩
      by_cases e : j = i
      · rw [e, hz]; exact h
      · exact hno j (by omega)
  exact e_Asks_spotOf (loop ns 0 (Nat.zero_add _) (fun j hj => absurd hj (Nat.not_lt_zero j)))
/-- what asking for an answer at a spot does -/
theorem xa_put {i : Nat} {I1 I2 : Nat → Nat → Int} {ns' : Nat} (h : xaC a bg ns cnt I) (hρ : ρ < 12) (hb : bg ρ + (a ρ).length = cnt) (hc : cns (a ρ ++ [(p, v)])) (h60 : cnt < 60) (hi : i < ns') (hI : I1 35 i = (p : Int)) (hns : ns' = ns ∧ I1 = I ∨ ns' = ns + 1 ∧ i = ns ∧ (∀ j : Nat, j < ns → I 35 j ≠ (p : Int)) ∧ I1 = am_u (am_u I 35 ns (p : Int)) 34 0 ((ns + 1 : Nat) : Int)) (h2 : I2 = am_u (am_u (am_u (am_u I1 36 cnt (i : Int)) 37 cnt (ec v)) 39 (60 * ρ + i) (ec v)) 34 1 ((cnt + 1 : Nat) : Int)) : xaC (aup a ρ [(p, v)]) bg ns' (cnt + 1) I2 := by
  obtain ⟨x1, x2, x3, x4, x5, x6, x7, x8⟩ := h
  have hle : ns ≤ ns' := by omega
  have hle2 : ns' ≤ cnt + 1 := by omega
  have e1 : ∀ j : Nat, I2 35 j = I1 35 j := by
    intro j
    rw [h2, am_u_ne (by decide), am_u_ne (by decide), am_u_ne (by decide), am_u_ne (by decide)]
  have e2 : ∀ j : Nat, j < ns → I1 35 j = I 35 j := by
    intro j hj
    rcases hns with ⟨-, q⟩ | ⟨-, -, -, q⟩
    · rw [q]
    · rw [q, am_u_ne (by decide), am_u_kn (by omega)]
  have e3 : ∀ j : Nat, j < cnt → I2 36 j = I 36 j ∧ I2 37 j = I 37 j := by
    intro j hj
    rw [h2, am_u_ne (by decide), am_u_ne (by decide), am_u_ne (by decide), am_u_kn (by omega), am_u_ne (by decide), am_u_ne (by decide), am_u_kn (by omega), am_u_ne (by decide)]
    rcases hns with ⟨-, q⟩ | ⟨-, -, -, q⟩
    · rw [q]; exact ⟨rfl, rfl⟩
    · rw [q, am_u_ne (by decide), am_u_ne (by decide), am_u_ne (by decide), am_u_ne (by decide)]; exact ⟨rfl, rfl⟩
  have e4 : ∀ j : Nat, I1 39 j = I 39 j := by
    intro j
    rcases hns with ⟨-, q⟩ | ⟨-, -, -, q⟩
    · rw [q]
    · rw [q, am_u_ne (by decide), am_u_ne (by decide)]
  have e5 : I1 34 0 = (ns' : Int) := by
    rcases hns with ⟨q0, q⟩ | ⟨q0, -, -, q⟩
    · rw [q, q0]; exact x1
    · rw [q, q0]; exact am_u_kk
  have e6 : ∀ j : Nat, j < ns' → j ≠ i → j < ns ∨ ns' = ns := by omega
  have e7 : ∀ j : Nat, j < ns' → I1 35 j = I 35 j ∨ j = i := by
    intro j hj
    rcases hns with ⟨q0, q⟩ | ⟨q0, q1, -, q⟩
    · left; rw [q]
    · by_cases e : j = i
      · right; exact e
      · left; exact e2 j (by omega)
  have e8 : ∀ j j' : Nat, j < ns' → j' < ns' → I1 35 j = I1 35 j' → j = j' := by
    intro j j' h1 h2' he
    rcases hns with ⟨q0, q⟩ | ⟨q0, q1, q2, q⟩
    · rw [q] at he; exact x6 j j' (by omega) (by omega) he
    · by_cases c1 : j = i
      · by_cases c2 : j' = i
        · omega
        · rw [c1, hI, e2 j' (by omega)] at he
          exact absurd he.symm (q2 j' (by omega))
      · by_cases c2 : j' = i
        · rw [c2, hI, e2 j (by omega)] at he
          exact absurd he (q2 j (by omega))
        · rw [e2 j (by omega), e2 j' (by omega)] at he
          exact x6 j j' (by omega) (by omega) he
  have ins : ∀ ρ' : Nat, ρ' < 12 → ∀ x ∈ a ρ', ∃ j : Nat, j < ns ∧ I 35 j = (x.1 : Int) := fun ρ' hρ' => xal_mem _ _ (x7 ρ' hρ').2
  refine ⟨?_, ?_, hle2, by omega, fun j hj => ?_, fun j j' h1 h2' he => e8 j j' h1 h2' (by rw [e1, e1] at he; exact he), fun ρ' hρ' => ?_, fun ρ' j hρ' hj => ?_⟩
  · rw [h2, am_u_kn (by decide), am_u_ne (by decide), am_u_ne (by decide), am_u_ne (by decide)]; exact e5
  · rw [h2]; exact am_u_kk
  · rw [e1]
    rcases e7 j hj with q | q
    · by_cases c : j < ns
      · rw [q]; exact x5 j c
      · rcases hns with ⟨q0, q'⟩ | ⟨q0, q1, -, -⟩
        · omega
        · have : j = i := by omega
          rw [this]; exact ⟨p, hI⟩
    · rw [q]; exact ⟨p, hI⟩
  · obtain ⟨y1, y2⟩ := x7 ρ' hρ'
    have y3 : xal I2 ns' (bg ρ') (a ρ') := xal_fr hle (fun j hj => (e1 j).trans (e2 j hj)) _ _ y2 (fun j a1 a2 => e3 j (by omega))
    by_cases e : ρ' = ρ
    · subst e
      rw [aup_eq]
      refine ⟨by rw [List.length_append]; show bg ρ' + ((a ρ').length + 1) ≤ cnt + 1; omega, xal_app _ _ y3 ⟨i, hi, ?_, ?_⟩ ?_⟩
      · rw [hb, h2, am_u_ne (by decide), am_u_ne (by decide), am_u_ne (by decide), am_u_kk]
      · rw [e1]; exact hI
      · rw [hb, h2, am_u_ne (by decide), am_u_ne (by decide), am_u_kk]
    · rw [aup_ne e]
      exact ⟨by omega, y3⟩
  · obtain ⟨z1, z2⟩ := x8 ρ' j hρ' hj
    have g39 : ∀ k : Nat, I2 39 k = if k = 60 * ρ + i then ec v else I 39 k := by
      intro k
      rw [h2, am_u_ne (by decide), am_u_at, am_u_ne (by decide), am_u_ne (by decide), e4]
    refine ⟨fun hj' => ?_, fun hj' => ?_⟩
    · rw [g39, e1]
      by_cases e : ρ' = ρ
      · subst e
        rw [aup_eq]
        by_cases c : j = i
        · subst c
          rw [if_pos rfl, hI, wa_mem (v := v) hc (by simp)]
        · rw [if_neg (by omega)]
          have hne : I1 35 j ≠ (p : Int) := fun q => c (e8 j i hj' hi (q.trans hI.symm))
          rw [wa_app hne]
          rcases e7 j hj' with q | q
          · rw [q]
            refine z1 ?_
            rcases hns with ⟨q0, -⟩ | ⟨q0, q1, -, -⟩
            · omega
            · omega
          · exact absurd q c
      · rw [if_neg (by omega), aup_ne e]
        by_cases c : j < ns
        · rw [z1 c, e2 j c]
        · have hji : j = i ∧ ns' = ns + 1 ∧ ∀ k : Nat, k < ns → I 35 k ≠ (p : Int) := by
            rcases hns with ⟨q0, -⟩ | ⟨q0, q1, q2, -⟩
            · omega
            · exact ⟨by omega, q0, q2⟩
          rw [z2 (by omega), hji.1, hI, wa_none (fun x hx hq => ?_)]
          obtain ⟨k, k1, k2⟩ := ins ρ' hρ' x hx
          exact hji.2.2 k k1 (k2.trans hq)
    · rw [g39, if_neg (by omega)]
      exact z2 (by omega)
theorem x_ask (hB : am_B K R) (h : xaC a bg ns cnt I) (hρ : ρ < 12) (hb : bg ρ + (a ρ).length = cnt) (hc : cns (a ρ ++ [(p, v)])) (h60 : cnt < 60) (post : ∀ (ns' : Nat) (I' : Nat → Nat → Int), xq_fr I I' → xaC (aup a ρ [(p, v)]) bg ns' (cnt + 1) I' → Q none (n0, K, I', J, R)) : am_WP (d + 1) (am_entry 84 [.inr (.inl 34), .inl (ρ : Int), .inl (p : Int), .inl (ec v)] (n0, K, I, J, R)) Q := by
  have h0 := h
  obtain ⟨x1, x2, x3, x4, x5, x6, x7, x8⟩ := h
  have rest : ∀ (i ns' : Nat) (I1 : Nat → Nat → Int), i < ns' → ns' ≤ 60 → I1 35 i = (p : Int) → xq_fr I I1 → (∀ j : Nat, I1 34 1 = (cnt : Int)) → (ns' = ns ∧ I1 = I ∨ ns' = ns + 1 ∧ i = ns ∧ (∀ j : Nat, j < ns → I 35 j ≠ (p : Int)) ∧ I1 = am_u (am_u I 35 ns (p : Int)) 34 0 ((ns + 1 : Nat) : Int)) → am_WP (d + 1) (84, 49, [.inr (.inl 34), .inl (ρ : Int), .inl (p : Int), .inl (ec v), .inl (i : Int)], [], (0, 0), n0, K, I1, J, R) Q := by
    intro i ns' I1 hi hn hI hf hc1 hns
    refine s_Asks_ask_49 ⟨(am_kk hB rfl), 36, (am_rf hB rfl), (am_kk hB rfl), am_nm_k (hc1 0) ?_⟩
    rintro _ rfl _ _
    refine ⟨_, by decide, (am_kk hB rfl), ⟨by omega, by omega⟩, (am_kk hB rfl), 37, (am_rf hB rfl), (am_kk hB rfl), am_nm_k ((am_u_ne (by decide)).trans (hc1 0)) ?_⟩
    rintro _ rfl _ _
    refine ⟨_, by decide, (am_kk hB rfl), ⟨by omega, by omega⟩, (am_kk hB rfl), 39, (am_rf hB rfl), am_ar_i (by omega) (by omega) (am_ar_i (by omega) (by omega) ?_)⟩
    rw [show (ρ : Int) * 60 + (i : Int) = ((60 * ρ + i : Nat) : Int) by omega]
    refine ⟨_, by decide, (am_kk hB rfl), ⟨by omega, by omega⟩, (am_kk hB rfl), ?_⟩
    show am_nm (am_u (am_u (am_u I1 36 cnt (i : Int)) 37 cnt (ec v)) 39 (60 * ρ + i) (ec v) 34 1) _
    refine am_nm_k (((am_u_ne (by decide)).trans ((am_u_ne (by decide)).trans (am_u_ne (by decide)))).trans (hc1 0)) ?_
    rintro _ rfl _ _
    refine am_ar_i (by omega) (by omega) ⟨⟨by decide, (am_kk hB rfl)⟩, ?_⟩
    exact post ns' _ (xq_u (xq_u (xq_u (xq_u hf (by omega)) (by omega)) (by omega)) (by omega)) (xa_put h0 hρ hb hc h60 hi hI hns rfl)
  refine e_Asks_ask ⟨(am_kk hB rfl), am_nm_k x2 ?_⟩
  rintro _ rfl _ _
  refine ⟨fun _ => ⟨(am_kk hB rfl), x_spotOf hB x1 (by omega) (fun i hi hI => ⟨_, rfl, s_Asks_ask_15 ⟨fun _ => rest i ns I hi (by omega) hI xq_refl (fun _ => x2) (Or.inl ⟨rfl, rfl⟩), fun h => absurd h (by omega)⟩⟩) (fun hno => ⟨_, rfl, s_Asks_ask_15 ⟨fun h => absurd rfl h, fun _ => ⟨(am_kk hB rfl), am_nm_k x1 ?_⟩⟩⟩)⟩, fun h => absurd h (by omega)⟩
  rintro _ rfl _ _
  refine ⟨(am_kk hB rfl), 35, (am_rf hB rfl), (am_kk hB rfl), am_nm_k x1 ?_⟩
  rintro _ rfl _ _
  refine ⟨_, by decide, (am_kk hB rfl), ⟨by omega, by omega⟩, (am_kk hB rfl), am_nm_k ((am_u_ne (by decide)).trans x1) ?_⟩
  rintro _ rfl _ _
  refine am_ar_i (by omega) (by omega) ⟨⟨by decide, (am_kk hB rfl)⟩, ?_⟩
  exact rest ns (ns + 1) _ (by omega) (by omega) ((am_u_ne (by decide)).trans am_u_kk) (xq_u (xq_u xq_refl (by omega)) (by omega)) (fun _ => (am_u_kn (by decide)).trans ((am_u_ne (by decide)).trans x2)) (Or.inr ⟨rfl, rfl, hno, rfl⟩)
end XAK
