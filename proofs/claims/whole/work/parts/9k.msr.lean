/-! SEARCH: what the reference asks of rows -/
def akf (B : List (Nat × Int)) : List (Nat × Int) := B.filter (fun x => decide (x.2 ≠ -1))
def ak (A : Nat → List (Nat × Int)) : Nat → List (Nat × Int) := fun ρ => akf (A ρ)
theorem akf_look {x : Nat × Int} {B : List (Nat × Int)} (h : x.2 = -1) : akf (x :: B) = akf B := by unfold akf; rw [List.filter_cons_of_neg (by simp [h])]
theorem akf_ask {x : Nat × Int} {B : List (Nat × Int)} (h : x.2 ≠ -1) : akf (x :: B) = x :: akf B := by unfold akf; rw [List.filter_cons_of_pos (by simp [h])]
def Sg (g : Nat → Bool) (ah : Nat) : Nat → Prop := fun ρ => ρ < ah ∧ g ρ = false
def sE (A : Nat → List (Nat × Int)) (g : Nat → Bool) (s nr ah : Nat) (K : Nat → Int) (I : Nat → Nat → Int) : Prop := I 101 14 = (s : Int) ∧ s < 2 ∧ nr ≤ 12 ∧ ah ≤ nr ∧ I 101 50 = (ah : Int) ∧ (∀ ρ : Nat, ρ < nr → acS I (12 * s + ρ) (A ρ) ∧ (A ρ).length ≤ 60 ∧ (∀ x ∈ A ρ, x.1 < 65536) ∧ I 118 (12 * s + ρ) = xt_v (g ρ)) ∧ ∀ q : Nat, q < 65536 → I 128 q = K q
section MSQ
variable {d n : Nat} {C : Nat → am_K} {J : Nat → Nat → Int} {R : Nat → Nat → Option Nat} {Q : am_Q} {A : Nat → List (Nat × Int)} {g : Nat → Bool} {s nr ah : Nat} {K : Nat → Int} {I : Nat → Nat → Int}
theorem m_isLeft {ρ : Nat} (hB : am_B C R) (hE : sE A g s nr ah K I) (hρ : ρ < nr) (yes : lft K (ak A ρ) → Q (some (.inl 1)) (n, C, I, J, R)) (no : ¬ lft K (ak A ρ) → Q (some (.inl 0)) (n, C, I, J, R)) : am_WP d (am_entry 60 [.inr (.inl 101), .inl ((12 * s + ρ : Nat) : Int)] (n, C, I, J, R)) Q := by
  obtain ⟨e1, e2, e3, e4, e5, e6, e7⟩ := hE
  obtain ⟨hA, hl, hp, -⟩ := e6 ρ hρ
  have ixr : (0 : Int) ≤ ((12 * s + ρ : Nat) : Int) ∧ ((12 * s + ρ : Nat) : Int) < ((24 : Nat) : Int) := ⟨by omega, by omega⟩
  have loop : ∀ (B : List (Nat × Int)) (k : Nat), k + B.length = (A ρ).length → lsa I (12 * s + ρ) k B → (∀ x ∈ B, x.1 < 65536) → (lft K (ak A ρ) ↔ lft K (akf B)) → am_WP d (60, 2, [.inr (.inl 101), .inl ((12 * s + ρ : Nat) : Int), .inl (k : Int), am_o, am_o], [], (0, 0), n, C, I, J, R) Q := by
    intro B
    induction B with
    | nil =>
      intro k hk hL hp' hiff
      have hk : k + 0 = (A ρ).length := hk
      refine s_M_isLeft_2 ⟨(am_kk hB rfl), 119, (am_rf hB rfl), _, (am_kk hB rfl), ixr, am_nm_k hA.1 ?_⟩
      rintro _ rfl _ _
      exact ⟨fun _ => ⟨Or.inr rfl, yes (hiff.mpr (fun x hx => absurd hx (by simp [akf])))⟩, fun h => absurd h (by omega)⟩
    | cons x B ih =>
      intro k hk hL hp' hiff
      have hk : k + (B.length + 1) = (A ρ).length := hk
      have xp := hp' x List.mem_cons_self
      have fg : am_WP d (60, 2, [.inr (.inl 101), .inl ((12 * s + ρ : Nat) : Int), .inl ((k + 1 : Nat) : Int), am_o, am_o], [], (0, 0), n, C, I, J, R) Q → am_WP d (60, 2, [.inr (.inl 101), .inl ((12 * s + ρ : Nat) : Int), .inl ((k : Int) + 1), .inl (x.1 : Int), .inl x.2], [], (0, 0), n, C, I, J, R) Q := fun h => am_WP.forget h _ (am_le_eq (am_le_eq (am_le_eq (am_le_o (am_le_o am_le_nil)))))
      have nx := fun h => ih (k + 1) (by omega) hL.2.2 (fun y hy => hp' y (List.mem_cons_of_mem _ hy)) h
      refine s_M_isLeft_2 ⟨(am_kk hB rfl), 119, (am_rf hB rfl), _, (am_kk hB rfl), ixr, am_nm_k hA.1 ?_⟩
      rintro _ rfl _ _
      refine ⟨fun h => absurd h (by omega), fun _ => ⟨(am_kk hB rfl), 120, (am_rf hB rfl), am_ar_i (by omega) (by omega) (am_ar_i (by omega) (by omega) ?_)⟩⟩
      rw [show (150 : Int) * ((12 * s + ρ : Nat) : Int) + (k : Int) = ((150 * (12 * s + ρ) + k : Nat) : Int) by omega]
      refine ⟨_, (am_kk hB rfl), ⟨by omega, by omega⟩, am_nm_k hL.1 ?_⟩
      rintro _ rfl _ _
      refine ⟨(am_kk hB rfl), 121, (am_rf hB rfl), am_ar_i (by omega) (by omega) (am_ar_i (by omega) (by omega) ?_)⟩
      rw [show (150 : Int) * ((12 * s + ρ : Nat) : Int) + (k : Int) = ((150 * (12 * s + ρ) + k : Nat) : Int) by omega]
      refine ⟨_, (am_kk hB rfl), ⟨by omega, by omega⟩, am_nm_k hL.2.1 ?_⟩
      rintro _ rfl _ _
      refine ⟨fun w1 => am_ar_i (by omega) (by omega) (fg (nx (by rw [hiff, akf_look w1]))), fun w1 => ⟨(am_kk hB rfl), 128, (am_rf hB rfl), _, (am_kk hB rfl), ⟨by omega, by omega⟩, am_nm_k (e7 x.1 xp) ?_⟩⟩
      rintro _ rfl _ _
      refine ⟨fun h => am_ar_i (by omega) (by omega) (fg (nx ?_)), fun h => ⟨(am_kk hB rfl), 128, (am_rf hB rfl), _, (am_kk hB rfl), ⟨by omega, by omega⟩, am_nm_k (e7 x.1 xp) ?_⟩⟩
      · rw [hiff, akf_ask w1]
        constructor
        · intro q y hy; exact q y (List.mem_cons_of_mem _ hy)
        · intro q y hy
          rcases List.mem_cons.mp hy with e | e
          · rw [e]; exact Or.inl h
          · exact q y e
      · rintro _ rfl _ _
        refine ⟨fun h2 => am_ar_i (by omega) (by omega) (fg (nx ?_)), fun h2 => ⟨Or.inl rfl, no (fun q => ?_)⟩⟩
        · rw [hiff, akf_ask w1]
          constructor
          · intro q y hy; exact q y (List.mem_cons_of_mem _ hy)
          · intro q y hy
            rcases List.mem_cons.mp hy with e | e
            · rw [e]; exact Or.inr h2
            · exact q y e
        · have := hiff.mp q x (by rw [akf_ask w1]; exact List.mem_cons_self)
          rcases this with r | r
          · exact h r
          · exact h2 r
  exact e_M_isLeft (loop (A ρ) 0 (Nat.zero_add _) hA.2 hp Iff.rfl)
theorem m_firstLeft (hB : am_B C R) (hE : sE A g s nr ah K I) (some' : ∀ ρ : Nat, isF (ak A) nr (Sg g ah) K ρ → Q (some (.inl ((12 * s + ρ : Nat) : Int))) (n, C, I, J, R)) (none' : nol (ak A) nr (Sg g ah) K → Q (some (.inl (-1))) (n, C, I, J, R)) : am_WP (d + 1) (am_entry 61 [.inr (.inl 101)] (n, C, I, J, R)) Q := by
  have hE0 := hE
  obtain ⟨e1, e2, e3, e4, e5, e6, e7⟩ := hE
  have loop : ∀ (u ρ : Nat), ρ + u = ah → (∀ ρ' : Nat, ρ' < ρ → Sg g ah ρ' → ¬ lft K (ak A ρ')) → am_WP (d + 1) (61, 2, [.inr (.inl 101), .inl (ρ : Int)], [], (0, 0), n, C, I, J, R) Q := by
    intro u
    induction u with
    | zero =>
      intro ρ hu hno
      refine s_M_firstLeft_2 ⟨(am_kk hB rfl), am_nm_k e5 ?_⟩
      rintro _ rfl _ _
      exact ⟨fun _ => none' (fun ρ' _ hS => hno ρ' (by have := hS.1; omega) hS), fun h => absurd h (by omega)⟩
    | succ u ih =>
      intro ρ hu hno
      obtain ⟨-, -, -, hg⟩ := e6 ρ (by omega)
      refine s_M_firstLeft_2 ⟨(am_kk hB rfl), am_nm_k e5 ?_⟩
      rintro _ rfl _ _
      refine ⟨fun h => absurd h (by omega), fun _ => ⟨(am_kk hB rfl), 118, (am_rf hB rfl), (am_kk hB rfl), am_nm_k e1 ?_⟩⟩
      rintro _ rfl _ _
      refine am_ar_i (by omega) (by omega) (am_ar_i (by omega) (by omega) ?_)
      rw [show (12 : Int) * (s : Int) + (ρ : Int) = ((12 * s + ρ : Nat) : Int) by omega]
      refine ⟨_, Or.inl ⟨by decide, (am_kk hB rfl)⟩, ⟨by omega, by omega⟩, am_nm_k hg ?_⟩
      rintro _ rfl _ _
      refine ⟨fun h => am_ar_i (by omega) (by omega) (ih (ρ + 1) (by omega) (fun ρ' h' hS => ?_)), fun h => ⟨(am_kk hB rfl), am_nm_k e1 ?_⟩⟩
      · by_cases e : ρ' = ρ
        · subst e
          have := hS.2
          rw [this] at h
          exact absurd rfl h
        · exact hno ρ' (by omega) hS
      · have gf : g ρ = false := by
          cases hb : g ρ
          · rfl
          · rw [hb] at h; exact absurd h (by decide)
        rintro _ rfl _ _
        refine am_ar_i (by omega) (by omega) (am_ar_i (by omega) (by omega) ?_)
        rw [show (12 : Int) * (s : Int) + (ρ : Int) = ((12 * s + ρ : Nat) : Int) by omega]
        refine ⟨(am_kk hB rfl), m_isLeft hB hE0 (by omega) (fun hl => ⟨_, rfl, s_M_firstLeft_40 ⟨fun h => absurd h (by decide), fun _ => ⟨(am_kk hB rfl), am_nm_k e1 ?_⟩⟩⟩) (fun hl => ⟨_, rfl, s_M_firstLeft_40 ⟨fun _ => am_ar_i (by omega) (by omega) (ih (ρ + 1) (by omega) (fun ρ' h' hS => ?_)), fun h => absurd rfl h⟩⟩)⟩
        · rintro _ rfl _ _
          refine am_ar_i (by omega) (by omega) (am_ar_i (by omega) (by omega) ?_)
          rw [show (12 : Int) * (s : Int) + (ρ : Int) = ((12 * s + ρ : Nat) : Int) by omega]
          exact some' ρ ⟨by omega, ⟨by omega, gf⟩, hl, fun ρ' h' hS => hno ρ' h' hS⟩
        · by_cases e : ρ' = ρ
          · subst e; exact hl
          · exact hno ρ' (by omega) hS
  exact e_M_firstLeft (loop ah 0 (by omega) (fun ρ' h => absurd h (Nat.not_lt_zero ρ')))
theorem m_firstOpen {ρ : Nat} (hB : am_B C R) (hE : sE A g s nr ah K I) (hρ : ρ < nr) (some' : ∀ (k p : Nat) (w : Int), k < 3600 → I 120 k = (p : Int) → I 121 k = w → p < 65536 → fo K (ak A ρ) = some (p, w) → Q (some (.inl (k : Int))) (n, C, I, J, R)) (none' : fo K (ak A ρ) = none → Q (some (.inl (-1))) (n, C, I, J, R)) : am_WP d (am_entry 62 [.inr (.inl 101), .inl ((12 * s + ρ : Nat) : Int)] (n, C, I, J, R)) Q := by
  obtain ⟨e1, e2, e3, e4, e5, e6, e7⟩ := hE
  obtain ⟨hA, hl, hp, -⟩ := e6 ρ hρ
  have ixr : (0 : Int) ≤ ((12 * s + ρ : Nat) : Int) ∧ ((12 * s + ρ : Nat) : Int) < ((24 : Nat) : Int) := ⟨by omega, by omega⟩
  have loop : ∀ (B : List (Nat × Int)) (k : Nat), k + B.length = (A ρ).length → lsa I (12 * s + ρ) k B → (∀ x ∈ B, x.1 < 65536) → fo K (ak A ρ) = fo K (akf B) → am_WP d (62, 2, [.inr (.inl 101), .inl ((12 * s + ρ : Nat) : Int), .inl (k : Int)], [], (0, 0), n, C, I, J, R) Q := by
    intro B
    induction B with
    | nil =>
      intro k hk hL hp' he
      have hk : k + 0 = (A ρ).length := hk
      refine s_M_firstOpen_2 ⟨(am_kk hB rfl), 119, (am_rf hB rfl), _, (am_kk hB rfl), ixr, am_nm_k hA.1 ?_⟩
      rintro _ rfl _ _
      exact ⟨fun _ => none' he, fun h => absurd h (by omega)⟩
    | cons x B ih =>
      intro k hk hL hp' he
      have hk : k + (B.length + 1) = (A ρ).length := hk
      have xp := hp' x List.mem_cons_self
      have nx := fun h => ih (k + 1) (by omega) hL.2.2 (fun y hy => hp' y (List.mem_cons_of_mem _ hy)) h
      refine s_M_firstOpen_2 ⟨(am_kk hB rfl), 119, (am_rf hB rfl), _, (am_kk hB rfl), ixr, am_nm_k hA.1 ?_⟩
      rintro _ rfl _ _
      refine ⟨fun h => absurd h (by omega), fun _ => ⟨(am_kk hB rfl), 121, (am_rf hB rfl), am_ar_i (by omega) (by omega) (am_ar_i (by omega) (by omega) ?_)⟩⟩
      rw [show (150 : Int) * ((12 * s + ρ : Nat) : Int) + (k : Int) = ((150 * (12 * s + ρ) + k : Nat) : Int) by omega]
      refine ⟨_, (am_kk hB rfl), ⟨by omega, by omega⟩, am_nm_k hL.2.1 ?_⟩
      rintro _ rfl _ _
      refine ⟨fun w1 => am_ar_i (by omega) (by omega) (nx (by rw [he, akf_look w1])), fun w1 => ⟨(am_kk hB rfl), 128, (am_rf hB rfl), (am_kk hB rfl), 120, (am_rf hB rfl), am_ar_i (by omega) (by omega) (am_ar_i (by omega) (by omega) ?_)⟩⟩
      rw [show (150 : Int) * ((12 * s + ρ : Nat) : Int) + (k : Int) = ((150 * (12 * s + ρ) + k : Nat) : Int) by omega]
      refine ⟨_, (am_kk hB rfl), ⟨by omega, by omega⟩, am_nm_k hL.1 ?_⟩
      rintro _ rfl _ _
      refine ⟨_, (am_kk hB rfl), ⟨by omega, by omega⟩, am_nm_k (e7 x.1 xp) ?_⟩
      rintro _ rfl _ _
      refine ⟨fun h => am_ar_i (by omega) (by omega) (nx ?_), fun h => am_ar_i (by omega) (by omega) (am_ar_i (by omega) (by omega) ?_)⟩
      · rw [he, akf_ask w1]; simp [fo, h]
      · rw [show (150 : Int) * ((12 * s + ρ : Nat) : Int) + (k : Int) = ((150 * (12 * s + ρ) + k : Nat) : Int) by omega]
        exact some' (150 * (12 * s + ρ) + k) x.1 x.2 (by omega) hL.1 hL.2.1 xp (by rw [he, akf_ask w1]; simp [fo, h])
  exact e_M_firstOpen (loop (A ρ) 0 (Nat.zero_add _) hA.2 hp rfl)
theorem m_isAsked {p : Nat} {v : Int} (hB : am_B C R) (hE : sE A g s nr ah K I) (hv : v ≠ -1) (yes : wnd (ak A) nr (Sg g ah) K p v → Q (some (.inl 1)) (n, C, I, J, R)) (no : ¬ wnd (ak A) nr (Sg g ah) K p v → Q (some (.inl 0)) (n, C, I, J, R)) : am_WP (d + 1) (am_entry 64 [.inr (.inl 101), .inl (p : Int), .inl v] (n, C, I, J, R)) Q := by
  have hE0 := hE
  obtain ⟨e1, e2, e3, e4, e5, e6, e7⟩ := hE
  have loop : ∀ (u ρ : Nat), ρ + u = ah → (∀ ρ' : Nat, ρ' < ρ → Sg g ah ρ' → lft K (ak A ρ') → (p, v) ∉ ak A ρ') → am_WP (d + 1) (64, 2, [.inr (.inl 101), .inl (p : Int), .inl v, .inl (ρ : Int), am_o, am_o], [], (0, 0), n, C, I, J, R) Q := by
    intro u
    induction u with
    | zero =>
      intro ρ hu hno
      refine s_M_isAskedFor_2 ⟨(am_kk hB rfl), am_nm_k e5 ?_⟩
      rintro _ rfl _ _
      refine ⟨fun _ => ⟨Or.inl rfl, no ?_⟩, fun h => absurd h (by omega)⟩
      rintro ⟨ρ', h1, h2, h3, h4⟩
      exact hno ρ' (by have := h2.1; omega) h2 h3 h4
    | succ u ih =>
      intro ρ hu hno
      obtain ⟨hA, hl60, hp, hg⟩ := e6 ρ (by omega)
      have ixr : (0 : Int) ≤ ((12 * s + ρ : Nat) : Int) ∧ ((12 * s + ρ : Nat) : Int) < ((24 : Nat) : Int) := ⟨by omega, by omega⟩
      have nx : (Sg g ah ρ → lft K (ak A ρ) → (p, v) ∉ ak A ρ) → am_WP (d + 1) (64, 2, [.inr (.inl 101), .inl (p : Int), .inl v, .inl ((ρ + 1 : Nat) : Int), am_o, am_o], [], (0, 0), n, C, I, J, R) Q := by
        intro hh
        refine ih (ρ + 1) (by omega) (fun ρ' h' hS hl => ?_)
        by_cases e : ρ' = ρ
        · subst e; exact hh hS hl
        · exact hno ρ' (by omega) hS hl
      refine s_M_isAskedFor_2 ⟨(am_kk hB rfl), am_nm_k e5 ?_⟩
      rintro _ rfl _ _
      refine ⟨fun h => absurd h (by omega), fun _ => ⟨(am_kk hB rfl), am_nm_k e1 ?_⟩⟩
      rintro _ rfl _ _
      refine am_ar_i (by omega) (by omega) (am_ar_i (by omega) (by omega) ?_)
      rw [show (12 : Int) * (s : Int) + (ρ : Int) = ((12 * s + ρ : Nat) : Int) by omega]
      refine ⟨(am_kk hB rfl), 118, (am_rf hB rfl), _, Or.inl ⟨by decide, (am_kk hB rfl)⟩, ixr, am_nm_k hg ?_⟩
      rintro _ rfl _ _
      refine ⟨fun h => am_ar_i (by omega) (by omega) (am_WP.forget (nx (fun hS => ?_)) _ (am_le_eq (am_le_eq (am_le_eq (am_le_eq (am_le_o (am_le_eq am_le_nil))))))), fun h => ⟨(am_kk hB rfl), m_isLeft hB hE0 (by omega) (fun hl => ⟨_, rfl, s_M_isAskedFor_37 ⟨fun h => absurd h (by decide), fun _ => ?_⟩⟩) (fun hl => ⟨_, rfl, s_M_isAskedFor_37 ⟨fun _ => am_ar_i (by omega) (by omega) (am_WP.forget (nx (fun _ hl' => absurd hl' hl)) _ (am_le_eq (am_le_eq (am_le_eq (am_le_eq (am_le_o (am_le_eq am_le_nil))))))), fun h => absurd rfl h⟩⟩)⟩⟩
      · have := hS.2
        rw [this] at h
        exact absurd rfl h
      · have gf : g ρ = false := by
          cases hb : g ρ
          · rfl
          · rw [hb] at h; exact absurd h (by decide)
        have inner : ∀ (B : List (Nat × Int)) (k : Nat), k + B.length = (A ρ).length → lsa I (12 * s + ρ) k B → ((p, v) ∈ ak A ρ ↔ (p, v) ∈ B) → am_WP (d + 1) (64, 43, [.inr (.inl 101), .inl (p : Int), .inl v, .inl (ρ : Int), .inl ((12 * s + ρ : Nat) : Int), .inl (k : Int)], [], (0, 0), n, C, I, J, R) Q := by
          intro B
          induction B with
          | nil =>
            intro k hk hL hiff
            have hk : k + 0 = (A ρ).length := hk
            refine s_M_isAskedFor_43 ⟨(am_kk hB rfl), 119, (am_rf hB rfl), _, (am_kk hB rfl), ixr, am_nm_k hA.1 ?_⟩
            rintro _ rfl _ _
            exact ⟨fun _ => am_ar_i (by omega) (by omega) (am_WP.forget (nx (fun _ _ hm => absurd (hiff.mp hm) (by simp))) _ (am_le_eq (am_le_eq (am_le_eq (am_le_eq (am_le_o (am_le_o am_le_nil))))))), fun h => absurd h (by omega)⟩
          | cons x B ih2 =>
            intro k hk hL hiff
            have hk : k + (B.length + 1) = (A ρ).length := hk
            have nx2 : x ≠ (p, v) → am_WP (d + 1) (64, 43, [.inr (.inl 101), .inl (p : Int), .inl v, .inl (ρ : Int), .inl ((12 * s + ρ : Nat) : Int), .inl ((k : Int) + 1)], [], (0, 0), n, C, I, J, R) Q := by
              intro hx
              refine ih2 (k + 1) (by omega) hL.2.2 ?_
              rw [hiff, List.mem_cons]
              constructor
              · rintro (q | q)
                · exact absurd q.symm hx
                · exact q
              · exact Or.inr
            refine s_M_isAskedFor_43 ⟨(am_kk hB rfl), 119, (am_rf hB rfl), _, (am_kk hB rfl), ixr, am_nm_k hA.1 ?_⟩
            rintro _ rfl _ _
            refine ⟨fun h => absurd h (by omega), fun _ => ⟨(am_kk hB rfl), 120, (am_rf hB rfl), am_ar_i (by omega) (by omega) (am_ar_i (by omega) (by omega) ?_)⟩⟩
            rw [show (150 : Int) * ((12 * s + ρ : Nat) : Int) + (k : Int) = ((150 * (12 * s + ρ) + k : Nat) : Int) by omega]
            refine ⟨_, (am_kk hB rfl), ⟨by omega, by omega⟩, am_nm_k hL.1 ?_⟩
            rintro _ rfl _ _
            refine ⟨fun h => am_ar_i (by omega) (by omega) (nx2 (fun e => h (by rw [e]))), fun hpe => ⟨(am_kk hB rfl), 121, (am_rf hB rfl), am_ar_i (by omega) (by omega) (am_ar_i (by omega) (by omega) ?_)⟩⟩
            rw [show (150 : Int) * ((12 * s + ρ : Nat) : Int) + (k : Int) = ((150 * (12 * s + ρ) + k : Nat) : Int) by omega]
            refine ⟨_, (am_kk hB rfl), ⟨by omega, by omega⟩, am_nm_k hL.2.1 ?_⟩
            rintro _ rfl _ _
            refine ⟨fun h => am_ar_i (by omega) (by omega) (nx2 (fun e => h (by rw [e]))), fun h => ⟨Or.inr rfl, yes ⟨ρ, by omega, ⟨by omega, gf⟩, hl, hiff.mpr ?_⟩⟩⟩
            have : x = (p, v) := by
              obtain ⟨x1, x2⟩ := x
              have h1 : x1 = p := by
                have : (x1 : Int) = (p : Int) := hpe
                omega
              have h2 : x2 = v := h
              rw [h1, h2]
            rw [this]; exact List.mem_cons_self
        refine inner (A ρ) 0 (Nat.zero_add _) hA.2 ?_
        unfold ak akf
        rw [List.mem_filter]
        simp [hv]
  exact e_M_isAskedFor (loop ah 0 (by omega) (fun ρ' h => absurd h (Nat.not_lt_zero ρ')))
end MSQ
