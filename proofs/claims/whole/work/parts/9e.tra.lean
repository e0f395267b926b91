/-! TRIAL: what a row's acts do on values -/
def la (L : List Nat) (p : Nat) : List Nat := if p ∈ L then L else L ++ [p]
def tra (V : Nat → Int) : List (Nat × Int) → List Nat → Int × List Nat
  | [], L => (1, L)
  | x :: A, L => if V x.1 = -2 then (-2, la L x.1) else if x.2 ≠ -1 ∧ V x.1 ≠ x.2 then (0, la L x.1) else tra V A (la L x.1)
theorem la_len {L : List Nat} {p : Nat} : (la L p).length ≤ L.length + 1 := by
  unfold la
  split
  · omega
  · simp
theorem tra_len {V : Nat → Int} : ∀ (A : List (Nat × Int)) (L : List Nat), (tra V A L).2.length ≤ L.length + A.length := by
  intro A
  induction A with
  | nil => intro L; exact Nat.le_refl _
  | cons x A ih =>
    intro L
    have h1 := la_len (L := L) (p := x.1)
    have h2 := ih (la L x.1)
    unfold tra
    split
    · show (la L x.1).length ≤ L.length + (A.length + 1); omega
    · split
      · show (la L x.1).length ≤ L.length + (A.length + 1); omega
      · show (tra V A (la L x.1)).2.length ≤ L.length + (A.length + 1); omega
theorem tra_app {V : Nat → Int} : ∀ (A B : List (Nat × Int)) (L : List Nat), tra V (A ++ B) L = (if (tra V A L).1 = 1 then tra V B (tra V A L).2 else tra V A L) := by
  intro A
  induction A with
  | nil => intro B L; rfl
  | cons x A ih =>
    intro B L
    show (if V x.1 = -2 then (-2, la L x.1) else if x.2 ≠ -1 ∧ V x.1 ≠ x.2 then (0, la L x.1) else tra V (A ++ B) (la L x.1)) = _
    have e : tra V (x :: A) L = (if V x.1 = -2 then (-2, la L x.1) else if x.2 ≠ -1 ∧ V x.1 ≠ x.2 then (0, la L x.1) else tra V A (la L x.1)) := rfl
    rw [e]
    by_cases h1 : V x.1 = -2
    · simp [h1]
    · by_cases h2 : x.2 ≠ -1 ∧ V x.1 ≠ x.2
      · simp only [if_neg h1, if_pos h2]; rfl
      · simp only [if_neg h1, if_neg h2]; exact ih B (la L x.1)
theorem tra_res {V : Nat → Int} : ∀ (A : List (Nat × Int)) (L : List Nat), (tra V A L).1 = 1 ∨ (tra V A L).1 = 0 ∨ (tra V A L).1 = -2 := by
  intro A
  induction A with
  | nil => intro L; exact Or.inl rfl
  | cons x A ih =>
    intro L
    unfold tra
    split
    · exact Or.inr (Or.inr rfl)
    · split
      · exact Or.inr (Or.inl rfl)
      · exact ih _
def lk (f : Nat → Int) : Nat → List Nat → Prop
  | _, [] => True
  | k, x :: L => f k = (x : Int) ∧ lk f (k + 1) L
theorem lk_fr {f g : Nat → Int} : ∀ (L : List Nat) (k : Nat), lk f k L → (∀ j : Nat, k ≤ j → j < k + L.length → g j = f j) → lk g k L := by
  intro L
  induction L with
  | nil => intro k _ _; exact trivial
  | cons x L ih =>
    intro k h hf
    have hf' : ∀ j : Nat, k ≤ j → j < k + (L.length + 1) → g j = f j := hf
    exact ⟨(hf' k (by omega) (by omega)).trans h.1, ih (k + 1) h.2 (fun j h1 h2 => hf' j (by omega) (by omega))⟩
theorem lk_app {f : Nat → Int} {x : Nat} : ∀ (L : List Nat) (k : Nat), lk f k L → f (k + L.length) = (x : Int) → lk f k (L ++ [x]) := by
  intro L
  induction L with
  | nil => intro k _ h; exact ⟨h, trivial⟩
  | cons y L ih =>
    intro k h h2
    refine ⟨h.1, ih (k + 1) h.2 ?_⟩
    rw [show k + 1 + L.length = k + (y :: L).length by show _ = k + (L.length + 1); omega]; exact h2
theorem lk_get {f : Nat → Int} : ∀ (L : List Nat) (k j : Nat), lk f k L → ∀ h : j < L.length, f (k + j) = ((L[j]'h : Nat) : Int) := by
  intro L
  induction L with
  | nil => intro k j _ h; exact absurd h (Nat.not_lt_zero j)
  | cons x L ih =>
    intro k j hl h
    cases j with
    | zero => exact hl.1
    | succ j =>
      have := ih (k + 1) j hl.2 (by
        have : j + 1 < L.length + 1 := h
        omega)
      rw [show k + (j + 1) = k + 1 + j by omega]
      exact this
theorem lk_mem {f : Nat → Int} {p : Nat} : ∀ (L : List Nat) (k : Nat), lk f k L → (p ∈ L ↔ ∃ j : Nat, j < L.length ∧ f (k + j) = (p : Int)) := by
  intro L k h
  constructor
  · intro hp
    obtain ⟨j, hj, e⟩ := List.getElem_of_mem hp
    exact ⟨j, hj, by rw [lk_get L k j h hj, e]⟩
  · rintro ⟨j, hj, e⟩
    rw [lk_get L k j h hj] at e
    have : L[j] = p := by omega
    rw [← this]; exact List.getElem_mem hj
section MTR
variable {d n : Nat} {K : Nat → am_K} {J : Nat → Nat → Int} {R : Nat → Nat → Option Nat} {Q : am_Q}
theorem m_lookAt {I : Nat → Nat → Int} {L : List Nat} {p : Nat} (hB : am_B K R) (h40 : I 101 40 = (L.length : Int)) (hL : lk (I 127) 0 L) (hl : L.length < 400) (post : ∀ I' : Nat → Nat → Int, (∀ a j : Nat, ¬ (a = 101 ∧ j = 40) → a ≠ 127 → I' a j = I a j) → I' 101 40 = ((la L p).length : Int) → lk (I' 127) 0 (la L p) → Q none (n, K, I', J, R)) : am_WP d (am_entry 55 [.inr (.inl 101), .inl (p : Int)] (n, K, I, J, R)) Q := by
  have mem := lk_mem (p := p) L 0 hL
  have loop : ∀ (u j : Nat), j + u = L.length → (∀ i : Nat, i < j → I 127 i ≠ (p : Int)) → am_WP d (55, 2, [.inr (.inl 101), .inl (p : Int), .inl (j : Int)], [], (0, 0), n, K, I, J, R) Q := by
    intro u
    induction u with
    | zero =>
      intro j hu hj
      have np : p ∉ L := by
        intro h
        obtain ⟨i, hi, e⟩ := mem.mp h
        rw [Nat.zero_add] at e
        exact hj i (by omega) e
      have el : la L p = L ++ [p] := if_neg np
      rw [el] at post
      refine s_M_lookAt_2 ⟨(am_kk hB rfl), am_nm_k h40 ?_⟩
      rintro _ rfl _ _
      refine ⟨fun _ => ⟨(am_kk hB rfl), 127, (am_rf hB rfl), (am_kk hB rfl), am_nm_k h40 ?_⟩, fun h => absurd h (by omega)⟩
      rintro _ rfl _ _
      refine ⟨_, by decide, (am_kk hB rfl), ⟨by omega, by omega⟩, (am_kk hB rfl), am_nm_k (show am_u I 127 L.length (p : Int) 101 40 = (L.length : Int) from (am_u_ne (by decide)).trans h40) ?_⟩
      rintro _ rfl _ _
      refine am_ar_i (by omega) (by omega) ⟨⟨by decide, (am_kk hB rfl)⟩, post _ (fun a j h1 h2 => ?_) ?_ ?_⟩
      · show am_u (am_u I 127 L.length (p : Int)) 101 40 ((L.length : Int) + 1) a j = I a j
        rw [am_u_off h1, am_u_ne h2]
      · rw [am_u_kk, List.length_append]; rfl
      · refine lk_app L 0 (lk_fr L 0 hL (fun j h1 h2 => ?_)) ?_
        · show am_u (am_u I 127 L.length (p : Int)) 101 40 ((L.length : Int) + 1) 127 j = I 127 j
          rw [am_u_ne (by decide), am_u_kn (by omega)]
        · show am_u (am_u I 127 L.length (p : Int)) 101 40 ((L.length : Int) + 1) 127 (0 + L.length) = (p : Int)
          rw [am_u_ne (by decide), Nat.zero_add, am_u_kk]
    | succ u ih =>
      intro j hu hj
      refine s_M_lookAt_2 ⟨(am_kk hB rfl), am_nm_k h40 ?_⟩
      rintro _ rfl _ _
      refine ⟨fun h => absurd h (by omega), fun _ => ⟨(am_kk hB rfl), 127, (am_rf hB rfl), _, (am_kk hB rfl), ⟨by omega, by omega⟩, fun z8 hz8 _ _ => ⟨fun h => am_ar_i (by omega) (by omega) (ih (j + 1) (by omega) (fun i hi => ?_)), fun h => ?_⟩⟩⟩
      · by_cases e : i = j
        · rw [e]; intro q; exact h (hz8.trans q)
        · exact hj i (by omega)
      · have hp : p ∈ L := mem.mpr ⟨j, by omega, by rw [Nat.zero_add]; exact hz8.symm.trans h⟩
        have el : la L p = L := if_pos hp
        rw [el] at post
        exact post I (fun _ _ _ _ => rfl) h40 hL
  exact e_M_lookAt (loop L.length 0 (by omega) (fun i hi => absurd hi (Nat.not_lt_zero i)))
theorem m_tryRow {R0 : Nat} {A : List (Nat × Int)} (hB : am_B K R) (hR : R0 < 24) (hA60 : A.length ≤ 60) : ∀ (B : List (Nat × Int)) (k : Nat) (L : List Nat) (I : Nat → Nat → Int), k + B.length = A.length → I 119 R0 = (A.length : Int) → lsa I R0 k B → (∀ x ∈ B, x.1 < 65536) → I 101 40 = (L.length : Int) → lk (I 127) 0 L → L.length + B.length ≤ 100 →
    (∀ I' : Nat → Nat → Int, (∀ a j : Nat, ¬ (a = 101 ∧ j = 40) → a ≠ 127 → I' a j = I a j) → I' 101 40 = ((tra (I 125) B L).2.length : Int) → lk (I' 127) 0 (tra (I 125) B L).2 → Q (some (.inl (tra (I 125) B L).1)) (n, K, I', J, R)) → am_WP (d + 1) (57, 2, [.inr (.inl 101), .inl (R0 : Int), .inl (k : Int), am_o, am_o], [], (0, 0), n, K, I, J, R) Q := by
  intro B
  induction B with
  | nil =>
    intro k L I hk h119 hA hp h40 hL hl post
    have hk : k + 0 = A.length := hk
    refine s_M_tryRow_2 ⟨(am_kk hB rfl), 119, (am_rf hB rfl), _, (am_kk hB rfl), ⟨by omega, by omega⟩, am_nm_k h119 ?_⟩
    rintro _ rfl _ _
    exact ⟨fun _ => post I (fun _ _ _ _ => rfl) h40 hL, fun h => absurd h (by omega)⟩
  | cons x B ih =>
    intro k L I hk h119 hA hp h40 hL hl post
    have hk : k + (B.length + 1) = A.length := hk
    have hl : L.length + (B.length + 1) ≤ 100 := hl
    have xp := hp x List.mem_cons_self
    refine s_M_tryRow_2 ⟨(am_kk hB rfl), 119, (am_rf hB rfl), _, (am_kk hB rfl), ⟨by omega, by omega⟩, am_nm_k h119 ?_⟩
    rintro _ rfl _ _
    refine ⟨fun h => absurd h (by omega), fun _ => ⟨(am_kk hB rfl), 120, (am_rf hB rfl), am_ar_i (by omega) (by omega) (am_ar_i (by omega) (by omega) ?_)⟩⟩
    rw [show (150 : Int) * (R0 : Int) + (k : Int) = ((150 * R0 + k : Nat) : Int) by omega]
    refine ⟨_, (am_kk hB rfl), ⟨by omega, by omega⟩, am_nm_k hA.1 ?_⟩
    rintro _ rfl _ _
    refine ⟨(am_kk hB rfl), 121, (am_rf hB rfl), am_ar_i (by omega) (by omega) (am_ar_i (by omega) (by omega) ?_)⟩
    rw [show (150 : Int) * (R0 : Int) + (k : Int) = ((150 * R0 + k : Nat) : Int) by omega]
    refine ⟨_, (am_kk hB rfl), ⟨by omega, by omega⟩, am_nm_k hA.2.1 ?_⟩
    rintro _ rfl _ _
    refine ⟨(am_kk hB rfl), m_lookAt (p := x.1) hB h40 hL (by omega) (fun I1 f1 g1 g2 => ⟨rfl, ?_⟩)⟩
    have ll := la_len (L := L) (p := x.1)
    have v1 : I1 125 = I 125 := funext fun j => f1 _ _ (by omega) (by omega)
    have vx : I1 125 x.1 = I 125 x.1 := congrFun v1 _
    have et : tra (I 125) (x :: B) L = (if I 125 x.1 = -2 then (-2, la L x.1) else if x.2 ≠ -1 ∧ I 125 x.1 ≠ x.2 then (0, la L x.1) else tra (I 125) B (la L x.1)) := rfl
    have nx : tra (I 125) (x :: B) L = tra (I 125) B (la L x.1) → am_WP (d + 1) (57, 2, [.inr (.inl 101), .inl (R0 : Int), .inl ((k : Int) + 1), .inl (x.1 : Int), .inl x.2], [], (0, 0), n, K, I1, J, R) Q := by
      intro e
      have g := ih (k + 1) (la L x.1) I1 (by omega) ((f1 _ _ (by omega) (by omega)).trans h119) (lsa_fr B (k + 1) hA.2.2 (fun a j h1 h2 h3 => f1 a j (by omega) (by omega))) (fun y hy => hp y (List.mem_cons_of_mem _ hy)) g1 g2 (by omega) (fun I2 f2 q1 q2 => ?_)
      · exact am_WP.forget g _ (am_le_eq (am_le_eq (am_le_eq (am_le_o (am_le_o am_le_nil)))))
      · rw [v1] at q1 q2 ⊢
        have := post I2 (fun a j h1 h2 => (f2 a j h1 h2).trans (f1 a j h1 h2)) (by rw [e]; exact q1) (by rw [e]; exact q2)
        rw [e] at this
        exact this
    refine s_M_tryRow_44 ⟨(am_kk hB rfl), 125, (am_rf hB rfl), _, (am_kk hB rfl), ⟨by omega, by omega⟩, am_nm_k vx ?_⟩
    rintro _ rfl _ _
    refine ⟨fun n2 => ⟨fun w1 => am_ar_i (by omega) (by omega) (nx ?_), fun w1 => ⟨(am_kk hB rfl), 125, (am_rf hB rfl), _, (am_kk hB rfl), ⟨by omega, by omega⟩, am_nm_k vx ?_⟩⟩, fun k2 => ?_⟩
    · rw [et, if_neg n2, if_neg (fun q => q.1 w1)]
    · rintro _ rfl _ _
      refine ⟨fun e => am_ar_i (by omega) (by omega) (nx ?_), fun e => ?_⟩
      · rw [et, if_neg n2, if_neg (fun q => q.2 e)]
      · rw [if_neg n2, if_pos ⟨w1, e⟩] at et
        have := post I1 f1 (by rw [et]; exact g1) (by rw [et]; exact g2)
        rw [et] at this
        exact this
    · rw [if_pos k2] at et
      have := post I1 f1 (by rw [et]; exact g1) (by rw [et]; exact g2)
      rw [et] at this
      exact this
end MTR
