/-! SEARCH: the class settles spots -/
def xE (F : Nat → Nat → Int) (a : Nat → List (Nat × Int)) (bg : Nat → Nat) (ns cnt nr r N m : Nat) : Prop := xaC a bg ns cnt F ∧ (∀ ρ : Nat, ρ < nr → F 38 ρ = (bg ρ : Int) ∧ F 38 (ρ + 1) = ((bg ρ + (a ρ).length : Nat) : Int)) ∧ nr ≤ 12 ∧ (∃ Ic : Nat → Nat → Int, cE F r 0 N m Ic) ∧ aOk a nr (twf F r) (vdf m) ∧ (∀ ρ : Nat, ρ < nr → aOrd [] (a ρ)) ∧ (∀ ρ : Nat, nr ≤ ρ → a ρ = []) ∧ (∀ ρ : Nat, ρ < nr → ∀ x ∈ a ρ, x.2 ≤ 1099)
def xs_f (F I : Nat → Nat → Int) : Prop := ∀ x : Nat, x ≠ 40 → I x = F x
def stK (F : Nat → Nat → Int) (ns : Nat) (K : Nat → Int) (I : Nat → Nat → Int) : Prop := xs_f F I ∧ ∀ i p : Nat, i < ns → F 35 i = (p : Int) → I 40 i = ec (K p)
def stKx (F : Nat → Nat → Int) (ns : Nat) (K : Nat → Int) (i : Nat) (I : Nat → Nat → Int) : Prop := xs_f F I ∧ ∀ j p : Nat, j < ns → j ≠ i → F 35 j = (p : Int) → I 40 j = ec (K p)
theorem stK_x {F : Nat → Nat → Int} {ns i : Nat} {K : Nat → Int} {I : Nat → Nat → Int} (h : stK F ns K I) : stKx F ns K i I := ⟨h.1, fun j p hj _ hp => h.2 j p hj hp⟩
/-- the set of the rows that could still match -/
def rwq (a : Nat → List (Nat × Int)) (nr : Nat) (S : Nat → Prop) (K : Nat → Int) (q : Nat → Bool) : Prop := ∀ ρ : Nat, ρ < 12 → (q ρ = true ↔ ρ < nr ∧ S ρ ∧ lft K (a ρ))
theorem ec_m1 : ec (-1) = -1 := rfl
theorem ec_ne {v : Int} (h : ec v = -1) : v = -1 := by unfold ec at h; split at h <;> omega
theorem ec_inj {m : Nat} {v v' : Int} (hm : m ≤ 36) (h : vdf m v) (h' : vdf m v') (e : ec v = ec v') : v = v' := by
  unfold ec at e
  unfold vdf at h h'
  split at e <;> split at e <;> omega
theorem ec_nn {m : Nat} {v : Int} (h : vdf m v) : 0 ≤ ec v := by
  unfold ec
  unfold vdf at h
  split <;> omega
theorem wa_cases {B : List (Nat × Int)} {p : Nat} (hc : cns B) : (wa B (p : Int) = -1 ∧ ∀ v : Int, (p, v) ∉ B) ∨ ∃ v : Int, (p, v) ∈ B ∧ wa B (p : Int) = ec v := by
  rcases Classical.em (∃ v : Int, (p, v) ∈ B) with ⟨v, hv⟩ | h
  · exact Or.inr ⟨v, hv, wa_mem hc hv⟩
  · left
    refine ⟨wa_none (fun x hx e => h ⟨x.2, ?_⟩), fun v hv => h ⟨v, hv⟩⟩
    have : x.1 = p := by omega
    rw [← this]; exact hx
section XST
variable {d n0 : Nat} {C : Nat → am_K} {F I J : Nat → Nat → Int} {R : Nat → Nat → Option Nat} {Q : am_Q} {a : Nat → List (Nat × Int)} {bg : Nat → Nat} {ns cnt nr r N m : Nat} {S : Nat → Prop} {K : Nat → Int} {q : Nat → Bool} {i p : Nat}
theorem xE_cns (hX : xE F a bg ns cnt nr r N m) (ρ : Nat) : cns (a ρ) := by
  rcases Nat.lt_or_ge ρ nr with h | h
  · exact hX.2.2.2.2.1.2.1 ρ h
  · rw [hX.2.2.2.2.2.2.1 ρ h]; intro x hx; exact absurd hx (by simp)
theorem lft_set {A : List (Nat × Int)} {v : Int} (hp : K p = -1 ∨ K p = v) (hv : v ≠ -1) : lft (ku K p v) A ↔ lft K A ∧ ∀ x ∈ A, x.1 = p → x.2 = v := by
  rcases hp with hp | hp
  · exact lft_ku hp hv
  · have e : ku K p v = K := by
      funext z
      by_cases e : z = p
      · rw [e, ku_eq, hp]
      · exact ku_ne e
    rw [e]
    refine ⟨fun h => ⟨h, fun x hx hxp => ?_⟩, fun h => h.1⟩
    rcases h x hx with h' | h'
    · rw [hxp, hp] at h'; exact absurd h' hv
    · rw [hxp, hp] at h'; exact h'.symm
/-- the rows that are left -/
theorem x_rowsLeft {y : Int} {q' : Nat → Bool} (hB : am_B C R) (hX : xE F a bg ns cnt nr r N m) (hf1 : xs_f F I) (hi : i < ns) (hp : F 35 i = (p : Int)) (hq' : q' = fun ρ => q ρ && (decide (wa (a ρ) (p : Int) = -1) || decide (wa (a ρ) (p : Int) = y))) (fin : Q (some (.inl ((mk q' 12 : Nat) : Int))) (n0, C, I, J, R)) : am_WP d (am_entry 80 [.inr (.inl 34), .inl ((mk q 12 : Nat) : Int), .inl (i : Int), .inl y] (n0, C, I, J, R)) Q := by
  obtain ⟨x1, x2, x3, x4, x5, x6, x7, x8⟩ := hX.1
  have loop : ∀ (u ρ : Nat), ρ + u = 12 → am_WP d (80, 6, [.inr (.inl 34), .inl ((mk q 12 : Nat) : Int), .inl (i : Int), .inl y, .inl ((mk q' ρ : Nat) : Int), .inl (ρ : Int), am_o], [], (0, 0), n0, C, I, J, R) Q := by
    intro u
    induction u with
    | zero =>
      intro ρ hu
      have hu : ρ = 12 := hu
      subst hu
      exact s_Asks_rowsLeft_6 ⟨fun _ => fin, fun h => absurd h (by omega)⟩
    | succ u ih =>
      intro ρ hu
      have ml := mk_lt q' ρ
      have p2 : 2 ^ ρ ≤ 2 ^ 11 := Nat.pow_le_pow_right (by decide) (by omega)
      have nx : ∀ (b : Bool) (x6 : am_V), q' ρ = b → am_WP d (80, 6, [.inr (.inl 34), .inl ((mk q 12 : Nat) : Int), .inl (i : Int), .inl y, .inl ((mk q' ρ + (bif b then 2 ^ ρ else 0) : Nat) : Int), .inl ((ρ : Int) + 1), x6], [], (0, 0), n0, C, I, J, R) Q := by
        intro b x6 hb
        have e : mk q' (ρ + 1) = mk q' ρ + (bif q' ρ then 2 ^ ρ else 0) := rfl
        rw [hb] at e
        rw [← e]
        exact am_WP.forget (ih (ρ + 1) (by omega)) _ (am_le_eq (am_le_eq (am_le_eq (am_le_eq (am_le_eq (am_le_eq (am_le_o am_le_nil)))))))
      have st49 : ∀ x6 : Int, q' ρ = true → am_WP d (80, 49, [.inr (.inl 34), .inl ((mk q 12 : Nat) : Int), .inl (i : Int), .inl y, .inl ((mk q' ρ : Nat) : Int), .inl (ρ : Int), .inl x6], [], (0, 0), n0, C, I, J, R) Q := by
        intro x6 hb
        refine s_Asks_rowsLeft_49 (fun z1 hz1 _ _ => ?_)
        rw [hz1]
        refine am_nm_k (am_orm (by omega)) (fun z2 hz2 _ _ => am_ar_i (by omega) (by omega) ?_)
        rw [hz2]
        exact nx true _ hb
      have qd : q' ρ = (q ρ && (decide (wa (a ρ) (p : Int) = -1) || decide (wa (a ρ) (p : Int) = y))) := by rw [hq']
      have hw : I 39 (60 * ρ + i) = wa (a ρ) (p : Int) := by
        rw [hf1 39 (by decide), (x8 ρ i (by omega) (by omega)).1 hi, hp]
      refine s_Asks_rowsLeft_6 ⟨fun h => absurd h (by omega), fun _ => ⟨(am_kk hB rfl), 39, (am_rf hB rfl), am_ar_i (by omega) (by omega) (am_ar_i (by omega) (by omega) ?_)⟩⟩
      rw [show (ρ : Int) * 60 + (i : Int) = ((60 * ρ + i : Nat) : Int) by omega]
      refine ⟨_, (am_kk hB rfl), ⟨by omega, by omega⟩, am_nm_k (v := wa (a ρ) (p : Int)) hw (fun z hz _ _ => ?_)⟩
      rw [hz]
      refine fun z1 hz1 _ _ => ?_
      rw [hz1]
      refine am_nm_k (am_bitm (by omega) (by omega)) (fun z2 hz2 _ _ => ?_)
      rw [hz2]
      cases hqr : q ρ with
      | false =>
        refine ⟨fun _ => am_ar_i (by omega) (by omega) ?_, fun h => absurd h (by decide)⟩
        exact nx false _ (by rw [qd, hqr]; rfl)
      | true =>
        refine ⟨fun h => absurd rfl h, fun _ => ⟨fun c1 => ?_, fun c1 => ⟨fun c2 => am_ar_i (by omega) (by omega) ?_, fun c2 => ?_⟩⟩⟩
        · exact st49 _ (by rw [qd, hqr]; simp [c1])
        · exact nx false _ (by rw [qd, hqr]; simp [c1, c2])
        · exact st49 _ (by rw [qd, hqr]; simp [c2])
  exact e_Asks_rowsLeft (loop 12 0 (by omega))
/-- a spot is settled -/
theorem x_settle {v : Int} (hB : am_B C R) (hX : xE F a bg ns cnt nr r N m) (hI : stKx F ns K i I) (hq : rwq a nr S K q) (hi : i < ns) (hp : F 35 i = (p : Int)) (hv : vdf m v) (hk : K p = -1 ∨ K p = v) (post : ∀ (q' : Nat → Bool), rwq a nr S (ku K p v) q' → stK F ns (ku K p v) (am_u I 40 i (ec v)) → Q (some (.inl ((mk q' 12 : Nat) : Int))) (n0, C, am_u I 40 i (ec v), J, R)) : am_WP (d + 1) (am_entry 121 [.inr (.inl 31), .inl ((mk q 12 : Nat) : Int), .inl (i : Int), .inl (ec v)] (n0, C, I, J, R)) Q := by
  obtain ⟨Ic, hC⟩ := hX.2.2.2.1
  have m36 : m ≤ 36 := hC.2.1
  have hA := hX.2.2.2.2.1
  have hv1 := hA.2.2.2 v hv
  have ns60 : ns ≤ 60 := by have := hX.1.2.2.1; have := hX.1.2.2.2.1; omega
  have inj := hX.1.2.2.2.2.2.1
  have hst : stK F ns (ku K p v) (am_u I 40 i (ec v)) := by
    refine ⟨fun x hx => by rw [am_u_row hx]; exact hI.1 x hx, fun j pj hj hpj => ?_⟩
    rw [am_u_at]
    by_cases e : j = i
    · rw [if_pos e]
      rw [e, hp] at hpj
      have : pj = p := by omega
      rw [this, ku_eq]
    · rw [if_neg e, ku_ne (fun h => e (inj j i hj hi (by rw [hpj, hp, h])))]
      exact hI.2 j pj hj e hpj
  obtain ⟨q', hq'⟩ : ∃ q' : Nat → Bool, q' = fun ρ => q ρ && (decide (wa (a ρ) (p : Int) = -1) || decide (wa (a ρ) (p : Int) = ec v)) := ⟨_, rfl⟩
  have hrw : rwq a nr S (ku K p v) q' := by
    intro ρ hρ
    have hc := xE_cns hX ρ
    rw [hq']
    show (q ρ && (decide (wa (a ρ) (p : Int) = -1) || decide (wa (a ρ) (p : Int) = ec v))) = true ↔ _
    rw [lft_set hk hv1, Bool.and_eq_true, hq ρ hρ, Bool.or_eq_true, decide_eq_true_eq, decide_eq_true_eq]
    constructor
    · rintro ⟨⟨h1, h2, h3⟩, h4⟩
      refine ⟨h1, h2, h3, fun x hx e => ?_⟩
      obtain ⟨x1, x2⟩ := x
      have e : x1 = p := e
      subst e
      have hw := wa_mem hc hx
      have hvx := (hA.1 ρ h1 _ hx).2.1
      have hvx : vdf m x2 := hvx
      rcases h4 with h4 | h4
      · rw [hw] at h4
        have := ec_nn hvx
        omega
      · rw [hw] at h4
        exact ec_inj m36 hvx hv h4
    · rintro ⟨h1, h2, h3, h4⟩
      refine ⟨⟨h1, h2, h3⟩, ?_⟩
      rcases wa_cases (p := p) hc with ⟨c1, c2⟩ | ⟨v', c1, c2⟩
      · exact Or.inl c1
      · right
        rw [c2]
        have : v' = v := h4 _ c1 rfl
        rw [this]
  have fin := post q' hrw hst
  have hf1 : xs_f F (am_u I 40 i (ec v)) := hst.1
  refine e_Search_settle ⟨(am_kk hB rfl), 40, (am_rf hB rfl), _, by decide, (am_kk hB rfl), ⟨by omega, by omega⟩, (am_kk hB rfl), 34, (am_rf hB rfl), (am_kk hB rfl), ?_⟩
  show am_WP d (am_entry 80 [.inr (.inl 34), .inl ((mk q 12 : Nat) : Int), .inl (i : Int), .inl (ec v)] (n0, C, am_u I 40 i (ec v), J, R)) _
  exact x_rowsLeft hB hX hf1 hi hp hq' ⟨_, rfl, s_Search_settle_17 fin⟩
/-- the first ask that is open -/
theorem x_openAsk (hB : am_B C R) (hX : xE F a bg ns cnt nr r N m) (hI : stK F ns K I) (hq : rwq a nr S K q) (ask : ∀ (ρ k i p : Nat) (w : Int), isF a nr S K ρ → fo K (a ρ) = some (p, w) → k < 60 → i < ns → I 36 k = (i : Int) → F 35 i = (p : Int) → I 37 k = ec w → Q (some (.inl (k : Int))) (n0, C, I, J, R)) (stuck : ∀ ρ : Nat, isF a nr S K ρ → fo K (a ρ) = none → Q (some (.inl (-1))) (n0, C, I, J, R)) (none' : nol a nr S K → Q (some (.inl (-1))) (n0, C, I, J, R)) : am_WP (d + 1) (am_entry 125 [.inr (.inl 31), .inl ((mk q 12 : Nat) : Int)] (n0, C, I, J, R)) Q := by
  obtain ⟨x1, x2, x3, x4, x5, x6, x7, x8⟩ := hX.1
  have nr12 := hX.2.2.1
  refine e_Search_openAsk (x_ntz (fun ρ hρ hqr hno => ⟨_, rfl, s_Search_openAsk_4 ⟨fun _ => ?_, fun h => absurd h (by omega)⟩⟩) (fun h0 hno => ⟨_, rfl, s_Search_openAsk_4 ⟨fun h => absurd h (by decide), fun _ => none' (fun ρ hρ hS hl => ?_)⟩⟩))
  · obtain ⟨f1, f2, f3⟩ := (hq ρ hρ).mp hqr
    have hF : isF a nr S K ρ := ⟨f1, f2, f3, fun ρ' h' hS hl => by
      have := (hq ρ' (by omega)).mpr ⟨by omega, hS, hl⟩
      rw [hno ρ' h'] at this
      exact absurd this (by simp)⟩
    obtain ⟨b1, b2⟩ := hX.2.1 ρ f1
    obtain ⟨l1, l2⟩ := x7 ρ hρ
    have loop : ∀ (B : List (Nat × Int)) (k : Nat), k + B.length = bg ρ + (a ρ).length → xal F ns k B → fo K (a ρ) = fo K B → am_WP (d + 1) (125, 23, [.inr (.inl 31), .inl ((mk q 12 : Nat) : Int), .inl (ρ : Int), .inl (k : Int)], [], (0, 0), n0, C, I, J, R) Q := by
      intro B
      induction B with
      | nil =>
        intro k hk hL he
        have hk : k + 0 = bg ρ + (a ρ).length := hk
        refine s_Search_openAsk_23 ⟨(am_kk hB rfl), 34, (am_rf hB rfl), (am_kk hB rfl), 38, (am_rf hB rfl), am_ar_i (by omega) (by omega) ⟨_, (am_kk hB rfl), ⟨by omega, by omega⟩, am_nm_k ((congrFun (hI.1 38 (by decide)) (ρ + 1)).trans b2) ?_⟩⟩
        rintro _ rfl _ _
        exact ⟨fun _ => stuck ρ hF (by rw [he]; rfl), fun h => absurd h (by omega)⟩
      | cons x B ih =>
        intro k hk hL he
        have hk : k + (B.length + 1) = bg ρ + (a ρ).length := hk
        obtain ⟨⟨i, i1, i2, i3⟩, i4, i5⟩ := hL
        refine s_Search_openAsk_23 ⟨(am_kk hB rfl), 34, (am_rf hB rfl), (am_kk hB rfl), 38, (am_rf hB rfl), am_ar_i (by omega) (by omega) ⟨_, (am_kk hB rfl), ⟨by omega, by omega⟩, am_nm_k ((congrFun (hI.1 38 (by decide)) (ρ + 1)).trans b2) ?_⟩⟩
        rintro _ rfl _ _
        refine ⟨fun h => absurd h (by omega), fun _ => ⟨(am_kk hB rfl), 40, (am_rf hB rfl), (am_kk hB rfl), 34, (am_rf hB rfl), (am_kk hB rfl), 36, (am_rf hB rfl), _, (am_kk hB rfl), ⟨by omega, by omega⟩, am_nm_k ((congrFun (hI.1 36 (by decide)) k).trans i2) ?_⟩⟩
        rintro _ rfl _ _
        refine ⟨_, (am_kk hB rfl), ⟨by omega, by omega⟩, am_nm_k (show I 40 i = _ from hI.2 i x.1 i1 i3) (fun z hz _ _ => ?_)⟩
        rw [hz]
        refine ⟨fun c => am_ar_i (by omega) (by omega) (ih (k + 1) (by omega) i5 ?_), fun c => ?_⟩
        · rw [he]
          have : K x.1 ≠ -1 := fun e => c (by rw [e]; rfl)
          simp [fo, this]
        · have e1 := ec_ne c
          exact ask ρ k i x.1 x.2 hF (by rw [he]; simp [fo, e1]) (by omega) i1 (by rw [hI.1 36 (by decide)]; exact i2) i3 (by rw [hI.1 37 (by decide)]; exact i4)
    refine ⟨(am_kk hB rfl), 34, (am_rf hB rfl), (am_kk hB rfl), 38, (am_rf hB rfl), _, (am_kk hB rfl), ⟨by omega, by omega⟩, am_nm_k ((congrFun (hI.1 38 (by decide)) ρ).trans b1) ?_⟩
    rintro _ rfl _ _
    exact loop (a ρ) (bg ρ) rfl l2 rfl
  · have := (hq ρ (by omega)).mpr ⟨hρ, hS, hl⟩
    rw [hno ρ (by omega)] at this
    exact absurd this (by simp)
/-- wanted answers, as the class holds them -/
def Wn (a : Nat → List (Nat × Int)) (nr : Nat) (S : Nat → Prop) (K : Nat → Int) (p : Nat) (y : Int) : Prop := ∃ v : Int, wnd a nr S K p v ∧ ec v = y
theorem x_leastWanted {b : Int} (hB : am_B C R) (hX : xE F a bg ns cnt nr r N m) (hI : xs_f F I) (hq : rwq a nr S K q) (hi : i < ns) (hp : F 35 i = (p : Int)) (hb : 0 ≤ b) (post : ∀ y : Int, ((y = -1 ∧ ∀ y' : Int, b ≤ y' → ¬ Wn a nr S K p y') ∨ (b ≤ y ∧ Wn a nr S K p y ∧ ∀ y' : Int, b ≤ y' → y' < y → ¬ Wn a nr S K p y')) → Q (some (.inl y)) (n0, C, I, J, R)) : am_WP (d + 1) (am_entry 128 [.inr (.inl 34), .inl ((mk q 12 : Nat) : Int), .inl (i : Int), .inl b] (n0, C, I, J, R)) Q := by
  have nr12 := hX.2.2.1
  have hA := hX.2.2.2.2.1
  obtain ⟨x1, x2, x3, x4, x5, x6, x7, x8⟩ := hX.1
  have wof : ∀ ρ : Nat, ρ < 12 → q ρ = true → ∀ y : Int, 0 ≤ y → wa (a ρ) (p : Int) = y → Wn a nr S K p y := by
    intro ρ hρ hqr y hy e
    obtain ⟨f1, f2, f3⟩ := (hq ρ hρ).mp hqr
    rcases wa_cases (p := p) (xE_cns hX ρ) with ⟨c1, c2⟩ | ⟨v', c1, c2⟩
    · omega
    · exact ⟨v', ⟨ρ, f1, f2, f3, c1⟩, by omega⟩
  have wto : ∀ y : Int, Wn a nr S K p y → ∃ ρ : Nat, ρ < 12 ∧ q ρ = true ∧ wa (a ρ) (p : Int) = y := by
    rintro y ⟨v, ⟨ρ, f1, f2, f3, f4⟩, e⟩
    exact ⟨ρ, by omega, (hq ρ (by omega)).mpr ⟨f1, f2, f3⟩, by rw [wa_mem (xE_cns hX ρ) f4, e]⟩
  have loop : ∀ (u ρ : Nat) (y : Int), ρ + u = 12 → ((y = -1 ∧ ∀ ρ' : Nat, ρ' < ρ → q ρ' = true → wa (a ρ') (p : Int) < b) ∨ (b ≤ y ∧ Wn a nr S K p y ∧ ∀ ρ' : Nat, ρ' < ρ → q ρ' = true → wa (a ρ') (p : Int) < b ∨ y ≤ wa (a ρ') (p : Int))) → am_WP (d + 1) (128, 6, [.inr (.inl 34), .inl ((mk q 12 : Nat) : Int), .inl (i : Int), .inl b, .inl y, .inl (ρ : Int), am_o], [], (0, 0), n0, C, I, J, R) Q := by
    intro u
    induction u with
    | zero =>
      intro ρ y hu hy
      have hu : ρ = 12 := hu
      subst hu
      refine s_Asks_leastWanted_6 ⟨fun _ => post y ?_, fun h => absurd h (by omega)⟩
      rcases hy with ⟨h1, h2⟩ | ⟨h1, h2, h3⟩
      · refine Or.inl ⟨h1, fun y' hb' hW => ?_⟩
        obtain ⟨ρ, g1, g2, g3⟩ := wto y' hW
        have := h2 ρ g1 g2
        omega
      · refine Or.inr ⟨h1, h2, fun y' hb' hlt hW => ?_⟩
        obtain ⟨ρ, g1, g2, g3⟩ := wto y' hW
        have := h3 ρ g1 g2
        omega
    | succ u ih =>
      intro ρ y hu hy
      have fg : ∀ (y2 y0 : Int), am_WP (d + 1) (128, 6, [.inr (.inl 34), .inl ((mk q 12 : Nat) : Int), .inl (i : Int), .inl b, .inl y2, .inl ((ρ + 1 : Nat) : Int), am_o], [], (0, 0), n0, C, I, J, R) Q → am_WP (d + 1) (128, 6, [.inr (.inl 34), .inl ((mk q 12 : Nat) : Int), .inl (i : Int), .inl b, .inl y2, .inl ((ρ : Int) + 1), .inl y0], [], (0, 0), n0, C, I, J, R) Q := fun y2 y0 h => am_WP.forget h _ (am_le_eq (am_le_eq (am_le_eq (am_le_eq (am_le_eq (am_le_eq (am_le_o am_le_nil)))))))
      refine s_Asks_leastWanted_6 ⟨fun h => absurd h (by omega), fun _ => (fun z1 hz1 _ _ => ?_)⟩
      rw [hz1]
      refine am_nm_k (am_bitm (by omega) (by omega)) (fun z2 hz2 _ _ => ?_)
      rw [hz2]
      cases hqr : q ρ with
      | false =>
        refine ⟨fun _ => ?_, fun h => absurd h (by decide)⟩
        refine s_Asks_leastWanted_39 ⟨fun _ => am_ar_i (by omega) (by omega) (fg _ _ (ih (ρ + 1) y (by omega) ?_)), fun h => absurd h (by omega)⟩
        have ext : ∀ P : Nat → Prop, (∀ ρ' : Nat, ρ' < ρ → q ρ' = true → P ρ') → ∀ ρ' : Nat, ρ' < ρ + 1 → q ρ' = true → P ρ' := by
          intro P h ρ' h1 h2
          by_cases e : ρ' = ρ
          · rw [e, hqr] at h2; exact absurd h2 (by simp)
          · exact h ρ' (by omega) h2
        rcases hy with ⟨h1, h2⟩ | ⟨h1, h2, h3⟩
        · exact Or.inl ⟨h1, ext _ h2⟩
        · exact Or.inr ⟨h1, h2, ext _ h3⟩
      | true =>
        have hw : I 39 (60 * ρ + i) = wa (a ρ) (p : Int) := by
          rw [hI 39 (by decide), (x8 ρ i (by omega) (by omega)).1 hi, hp]
        refine ⟨fun h => absurd rfl h, fun _ => ⟨(am_kk hB rfl), 39, (am_rf hB rfl), am_ar_i (by omega) (by omega) (am_ar_i (by omega) (by omega) ?_)⟩⟩
        rw [show (ρ : Int) * 60 + (i : Int) = ((60 * ρ + i : Nat) : Int) by omega]
        refine ⟨_, (am_kk hB rfl), ⟨by omega, by omega⟩, am_nm_k (v := wa (a ρ) (p : Int)) hw (fun z hz _ _ => ?_)⟩
        rw [hz]
        refine s_Asks_leastWanted_39 ⟨fun c1 => am_ar_i (by omega) (by omega) (fg _ _ (ih (ρ + 1) y (by omega) ?_)), fun c1 => ⟨fun c2 => am_ar_i (by omega) (by omega) (fg _ _ (ih (ρ + 1) _ (by omega) (Or.inr ⟨c1, wof ρ (by omega) hqr _ (by omega) rfl, fun ρ' h1 h2 => ?_⟩))), fun c2 => ⟨fun c3 => am_ar_i (by omega) (by omega) (fg _ _ (ih (ρ + 1) y (by omega) ?_)), fun c3 => am_ar_i (by omega) (by omega) (fg _ _ (ih (ρ + 1) _ (by omega) (Or.inr ⟨c1, wof ρ (by omega) hqr _ (by omega) rfl, fun ρ' h1 h2 => ?_⟩)))⟩⟩⟩
        · rcases hy with ⟨h1, h2⟩ | ⟨h1, h2, h3⟩
          · refine Or.inl ⟨h1, fun ρ' g1 g2 => ?_⟩
            by_cases e : ρ' = ρ
            · rw [e]; exact c1
            · exact h2 ρ' (by omega) g2
          · refine Or.inr ⟨h1, h2, fun ρ' g1 g2 => ?_⟩
            by_cases e : ρ' = ρ
            · rw [e]; exact Or.inl c1
            · exact h3 ρ' (by omega) g2
        · rcases hy with ⟨g1, g2⟩ | ⟨g1, g2, g3⟩
          · by_cases e : ρ' = ρ
            · rw [e]; right; omega
            · left; exact g2 ρ' (by omega) h2
          · omega
        · rcases hy with ⟨h1, h2⟩ | ⟨h1, h2, h3⟩
          · exact absurd h1 c2
          · refine Or.inr ⟨h1, h2, fun ρ' g1 g2 => ?_⟩
            by_cases e : ρ' = ρ
            · rw [e]; exact Or.inr c3
            · exact h3 ρ' (by omega) g2
        · rcases hy with ⟨g1, g2⟩ | ⟨g1, g2, g3⟩
          · exact absurd g1 c2
          · by_cases e : ρ' = ρ
            · rw [e]; right; omega
            · have := g3 ρ' (by omega) h2
              omega
  exact e_Asks_leastWanted (loop 12 0 (-1) (by omega) (Or.inl ⟨rfl, fun ρ' h => absurd h (Nat.not_lt_zero ρ')⟩))
theorem x_leastUnwanted {b : Int} (hB : am_B C R) (hX : xE F a bg ns cnt nr r N m) (hI : xs_f F I) (hq : rwq a nr S K q) (hi : i < ns) (hp : F 35 i = (p : Int)) (hb : 0 ≤ b) (hb2 : b ≤ 100) (hu : ∃ k : Nat, k ≤ 12 ∧ ¬ Wn a nr S K p (b + (k : Int))) (post : ∀ y : Int, b ≤ y → y ≤ b + 12 → ¬ Wn a nr S K p y → (∀ y' : Int, b ≤ y' → y' < y → Wn a nr S K p y') → Q (some (.inl y)) (n0, C, I, J, R)) : am_WP (d + 2) (am_entry 130 [.inr (.inl 34), .inl ((mk q 12 : Nat) : Int), .inl (i : Int), .inl b] (n0, C, I, J, R)) Q := by
  obtain ⟨k0, hk0, hk1⟩ := hu
  have loop : ∀ (u k : Nat), k + u = 12 → (∀ y' : Int, b ≤ y' → y' < b + (k : Int) → Wn a nr S K p y') → am_WP (d + 2) (130, 6, [.inr (.inl 34), .inl ((mk q 12 : Nat) : Int), .inl (i : Int), .inl b, .inl (b + (k : Int)), .inl (k : Int)], [], (0, 0), n0, C, I, J, R) Q := by
    intro u
    induction u with
    | zero =>
      intro k hk hw
      have hk : k = 12 := hk
      subst hk
      refine s_Asks_leastUnwanted_6 ⟨fun _ => post _ (by omega) (by omega) (fun hW => ?_) hw, fun h => absurd h (by omega)⟩
      by_cases e : k0 = 12
      · rw [e] at hk1; exact hk1 hW
      · exact hk1 (hw _ (by omega) (by omega))
    | succ u ih =>
      intro k hk hw
      refine s_Asks_leastUnwanted_6 ⟨fun h => absurd h (by omega), fun _ => ⟨(am_kk hB rfl), x_leastWanted hB hX hI hq hi hp (by omega) (fun y hy => ⟨_, rfl, s_Asks_leastUnwanted_21 ⟨fun c => post _ (by omega) (by omega) (fun hW => ?_) hw, fun c => am_ar_i (by omega) (by omega) (am_ar_i (by omega) (by omega) ?_)⟩⟩)⟩⟩
      · rcases hy with ⟨h1, h2⟩ | ⟨h1, h2, h3⟩
        · exact h2 _ (Int.le_refl _) hW
        · exact h3 _ (Int.le_refl _) (by omega) hW
      · rw [show b + (k : Int) + 1 = b + ((k + 1 : Nat) : Int) by omega]
        refine ih (k + 1) (by omega) (fun y' h1 h2 => ?_)
        by_cases e : y' = b + (k : Int)
        · rcases hy with ⟨g1, g2⟩ | ⟨g1, g2, g3⟩
          · omega
          · rw [e, ← c]; exact g2
        · exact hw y' h1 (by omega)
  have := loop 12 0 (by omega) (fun y' h1 h2 => absurd h2 (by omega))
  rw [show b + ((0 : Nat) : Int) = b by omega] at this
  exact e_Asks_leastUnwanted this
end XST
