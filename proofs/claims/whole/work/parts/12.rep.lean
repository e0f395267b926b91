/-! HOW THE SMALL MACHINE'S STATE LIES IN THE HEAP. Cells below am_nc are constants (text literals, the script): they lie anywhere below B0 and are never written; cell am_nc + j lies at B0 + j. -/
def am_rho (ad : Nat → Nat) (B0 : Nat) (a : Nat) : Nat := if a < am_nc then ad a else B0 + (a - am_nc)
def am_cv (ρ : Nat → Nat) : am_V → Value
  | .inl x => .int (Int32.ofInt x)
  | .inr (.inl a) => .ref (ρ a)
  | .inr (.inr (some x)) => .long (Int64.ofInt x)
  | .inr (.inr none) => .retAddr 0
theorem am_cv_cat (ρ : Nat → Nat) (v : am_V) : (am_cv ρ v).category = am_cat v := by
  match v with
  | .inl x => rfl
  | .inr (.inl a) => rfl
  | .inr (.inr (some x)) => rfl
  | .inr (.inr none) => rfl
def am_rg (v : am_V) : Prop := match v with
  | .inl x => -2147483648 ≤ x ∧ x ≤ 2147483647
  | .inr (.inr (some x)) => -9223372036854775808 ≤ x ∧ x ≤ 9223372036854775807
  | _ => True
def am_rgs (l : List am_V) : Prop := ∀ v ∈ l, am_rg v
def am_Rg (I L : Nat → Nat → Int) : Prop := (∀ a j, -2147483648 ≤ I a j ∧ I a j ≤ 2147483647) ∧ ∀ a j, -9223372036854775808 ≤ L a j ∧ L a j ≤ 9223372036854775807
theorem am_rgs_nil : am_rgs [] := fun _ h => absurd h List.not_mem_nil
theorem am_rgs_cons {v : am_V} {l : List am_V} (h1 : am_rg v) (h2 : am_rgs l) : am_rgs (v :: l) := by
  intro w hw
  rcases List.mem_cons.mp hw with rfl | h
  · exact h1
  · exact h2 w h
theorem am_rgs_hd {v : am_V} {l : List am_V} (h : am_rgs (v :: l)) : am_rg v := h v List.mem_cons_self
theorem am_rgs_tl {v : am_V} {l : List am_V} (h : am_rgs (v :: l)) : am_rgs l := fun w hw => h w (List.mem_cons_of_mem _ hw)
theorem am_rgs_sub {l l' : List am_V} (h : am_rgs l) (hs : ∀ v ∈ l', v ∈ l) : am_rgs l' := fun v hv => h v (hs v hv)
theorem am_rgs_set {l : List am_V} {i : Nat} {v : am_V} (h : am_rgs l) (hv : am_rg v) : am_rgs (l.set i v) := by
  intro w hw
  rcases List.mem_or_eq_of_mem_set hw with h1 | h1
  · exact h w h1
  · rw [h1]; exact hv
theorem am_rgs_clr {l : List am_V} {i : Nat} (h : am_rgs l) : am_rgs (am_clr l i) := by
  unfold am_clr
  split
  · exact h
  · split
    · exact am_rgs_set h trivial
    · exact h
theorem am_rgs_st1 {l : List am_V} {i : Nat} {v : am_V} (h : am_rgs l) (hv : am_rg v) : am_rgs (am_st1 l i v) := am_rgs_set (am_rgs_clr h) hv
theorem am_rgs_st2 {l : List am_V} {i : Nat} {v : am_V} (h : am_rgs l) (hv : am_rg v) : am_rgs (am_st2 l i v) := am_rgs_set (am_rgs_set (am_rgs_clr h) hv) trivial
theorem am_fl_mem : ∀ (vs : List am_V) (w : am_V), w ∈ am_fl vs → w ∈ vs ∨ w = .inr (.inr none) := by
  intro vs
  induction vs with
  | nil => intro w h; exact absurd h List.not_mem_nil
  | cons v vs ih =>
    intro w h
    have one : w ∈ v :: am_fl vs → w ∈ v :: vs ∨ w = .inr (.inr none) := by
      intro h
      rcases List.mem_cons.mp h with rfl | h
      · exact Or.inl List.mem_cons_self
      · rcases ih w h with h | h
        · exact Or.inl (List.mem_cons_of_mem _ h)
        · exact Or.inr h
    match v, h, one with
    | .inl x, h, one => exact one h
    | .inr (.inl a), h, one => exact one h
    | .inr (.inr none), h, one => exact one h
    | .inr (.inr (some x)), h, one =>
      have h' : w ∈ (.inr (.inr (some x)) : am_V) :: .inr (.inr none) :: am_fl vs := h
      rcases List.mem_cons.mp h' with rfl | h1
      · exact Or.inl List.mem_cons_self
      · rcases List.mem_cons.mp h1 with h2 | h2
        · exact Or.inr h2
        · rcases ih w h2 with h | h
          · exact Or.inl (List.mem_cons_of_mem _ h)
          · exact Or.inr h
theorem am_pad_mem : ∀ (vs : List am_V) (n : Nat) (w : am_V), w ∈ am_pad vs n → w ∈ vs ∨ w = .inr (.inr none) := by
  intro vs
  induction vs with
  | nil => intro n w h; exact Or.inr (List.eq_of_mem_replicate h)
  | cons v vs ih =>
    intro n w h
    rw [am_pad] at h
    rcases List.mem_cons.mp h with rfl | h
    · exact Or.inl List.mem_cons_self
    · rcases ih _ w h with h | h
      · exact Or.inl (List.mem_cons_of_mem _ h)
      · exact Or.inr h
theorem am_rgs_entry {as : List am_V} {n : Nat} (h : am_rgs as) : am_rgs (am_pad (am_fl as) n) := by
  intro w hw
  rcases am_pad_mem _ _ _ hw with h1 | h1
  · rcases am_fl_mem _ _ h1 with h2 | h2
    · exact h w h2
    · rw [h2]; trivial
  · rw [h1]; trivial
def am_fv (ρ : Nat → Nat) (t : Nat) (I : Nat → Nat → Int) (L : Nat → Nat → Int) (R : Nat → Nat → Option Nat) (a j : Nat) : Value := match t with
  | 2 => .long (Int64.ofInt (L a j))
  | 3 => va_rf ((R a j).map ρ)
  | _ => .int (Int32.ofInt (I a j))
abbrev am_G : Type := (Nat → ClassId) × (Nat → Nat → Nat) × (Nat → ClassId) × (Nat → Nat) × Nat
def am_r (G : am_G) : Nat → Nat := am_rho G.2.2.2.1 G.2.2.2.2
def am_A (G : am_G) : Nat → Prop := fun q => G.2.2.2.2 ≤ q
def am_cell (G : am_G) (K : Nat → am_K) (I : Nat → Nat → Int) (L : Nat → Nat → Int) (R : Nat → Nat → Option Nat) (a : Nat) (H : Heap) : Prop := match K a with
  | .inl ci => ∃ q : vw_C, am_cls[ci]? = some q ∧ t_OB (am_r G a) (G.1 ci) q.2.2 (G.2.1 ci) H (fun k => am_fv (am_r G) (am_fty ci k) I L R a k)
  | .inr (t, len) => H[am_r G a]? = some (arrV (G.2.2.1 t) len (fun j => am_fv (am_r G) t I L R a j))
/-- the constants' part of a state -/
abbrev am_Z : Type := (Nat → am_K) × (Nat → Nat → Int) × (Nat → Nat → Option Nat)
def am_Hp (G : am_G) (Zc : am_Z) (σ : am_S) (H : Heap) : Prop := match σ with
  | (n, K, I, L, R) => am_nc ≤ n ∧ H.size = G.2.2.2.2 + (n - am_nc) ∧ (∀ a, n ≤ a → K a = .inr (99, 0)) ∧ (∀ a, am_nc ≤ a → a < n → am_cell G K I L R a H) ∧ (∀ a, a < am_nc → K a = Zc.1 a ∧ I a = Zc.2.1 a ∧ R a = Zc.2.2 a) ∧ am_Rg I L
abbrev am_tys (G : am_G) : List (ClassId × FieldType) := [(G.2.2.1 0, .int), (G.2.2.1 1, .boolean), (G.2.2.1 2, .long), (G.2.2.1 4, .byte)]
def am_ty (t : Nat) : FieldType := match t with
  | 0 => .int
  | 1 => .boolean
  | 2 => .long
  | 4 => .byte
  | 5 => .char
  | 6 => .short
  | _ => .int
/-- the constants, in the heap of a state -/
def am_Cst (G : am_G) (Zc : am_Z) (s : State) : Prop :=
  (∀ a, a < am_nc → match Zc.1 a with
    | .inl ci => am_cls[ci]? = none ∧ va_O (am_cn ci) (am_r G a) (am_A G) s s.heap ∧ ∀ k, k < am_cN ci → va_OF (am_cT ci k).1 (am_cT ci k).2.1 (am_cT ci k).2.2.1 (am_fv (am_r G) (am_fty ci k) Zc.2.1 (fun _ _ => 0) Zc.2.2 a k) (am_r G a) (am_A G) s s.heap
    | .inr (t, len) => t < 9 → va_T (am_ty t) (am_r G a) len (fun j => am_fv (am_r G) t Zc.2.1 (fun _ _ => 0) Zc.2.2 a j) (am_A G) s s.heap) ∧
  (∀ q ∈ am_strs, vk_R q.1 q.2.1 q.2.2.1 (am_r G q.2.2.2) s) ∧
  (∀ q ∈ am_stats, va_Z q.1 q.2.1 q.2.2.1 (.int (Int32.ofNat q.2.2.2)) (am_A G) s s.heap) ∧
  va_Zq "jdk/internal/util/Preconditions" "SIOOBE_FORMATTER" "Ljava/util/function/BiFunction;" (am_A G) s s.heap ∧
  ∀ q ∈ am_nsts, va_Nw (.methodLinkNest q.1 q.2.1 q.2.2.1 q.2.2.2) s
theorem am_r_inj {G : am_G} {a b : Nat} (ha : am_nc ≤ a) (hb : am_nc ≤ b) (h : am_r G a = am_r G b) : a = b := by
  unfold am_r am_rho at h
  rw [if_neg (by omega), if_neg (by omega)] at h
  omega
theorem am_r_A {G : am_G} {a : Nat} (ha : am_nc ≤ a) : am_A G (am_r G a) := by
  unfold am_A am_r am_rho
  rw [if_neg (by omega)]
  omega
theorem am_fv_other {ρ : Nat → Nat} {t : Nat} {I I' : Nat → Nat → Int} {L L' : Nat → Nat → Int} {R R' : Nat → Nat → Option Nat} {a j : Nat} (hI : I' a = I a) (hL : L' a = L a) (hR : R' a = R a) : am_fv ρ t I' L' R' a j = am_fv ρ t I L R a j := by
  unfold am_fv
  rw [hI, hL, hR]
theorem am_cell_other {G : am_G} {K K' : Nat → am_K} {I I' : Nat → Nat → Int} {L L' : Nat → Nat → Int} {R R' : Nat → Nat → Option Nat} {a : Nat} {H H1 : Heap} (hK : K' a = K a) (hI : I' a = I a) (hL : L' a = L a) (hR : R' a = R a) (hH : H1[am_r G a]? = H[am_r G a]?) (h : am_cell G K I L R a H) : am_cell G K' I' L' R' a H1 := by
  unfold am_cell at h ⊢
  rw [hK]
  split
  · rename_i ci e
    rw [e] at h
    obtain ⟨q, h1, h2⟩ := h
    exact ⟨q, h1, (h2.kept hH).to (fun k _ => (am_fv_other hI hL hR).symm)⟩
  · rename_i t len e
    rw [e] at h
    dsimp only at h
    rw [hH, h]
    congr 2
    funext j
    exact (am_fv_other hI hL hR).symm
theorem am_u_row {α : Type} {f : Nat → Nat → α} {a k b : Nat} {v : α} (h : b ≠ a) : am_u f a k v b = f b := by
  funext j
  simp [am_u, h]
theorem am_z_row {α : Type} {f : Nat → Nat → α} {a b : Nat} {v : α} (h : b ≠ a) : am_z f a v b = f b := by
  funext j
  simp [am_z, h]
theorem am_uK_ne {K : Nat → am_K} {a b : Nat} {v : am_K} (h : b ≠ a) : am_uK K a v b = K b := by simp [am_uK, h]
theorem am_Rg_z {I L : Nat → Nat → Int} {n : Nat} (h : am_Rg I L) : am_Rg (am_z I n 0) (am_z L n 0) := by
  refine ⟨fun a j => ?_, fun a j => ?_⟩
  · unfold am_z
    split
    · exact ⟨by decide, by decide⟩
    · exact h.1 a j
  · unfold am_z
    split
    · exact ⟨by decide, by decide⟩
    · exact h.2 a j
theorem am_Rg_uI {I L : Nat → Nat → Int} {a k : Nat} {x : Int} (h : am_Rg I L) (hx : -2147483648 ≤ x ∧ x ≤ 2147483647) : am_Rg (am_u I a k x) L := by
  refine ⟨fun b j => ?_, h.2⟩
  unfold am_u
  split
  · split
    · exact hx
    · exact h.1 b j
  · exact h.1 b j
theorem am_Rg_uL {I L : Nat → Nat → Int} {a k : Nat} {x : Int} (h : am_Rg I L) (hx : -9223372036854775808 ≤ x ∧ x ≤ 9223372036854775807) : am_Rg I (am_u L a k x) := by
  refine ⟨h.1, fun b j => ?_⟩
  unfold am_u
  split
  · split
    · exact hx
    · exact h.2 b j
  · exact h.2 b j
/-- a write into one cell -/
theorem am_Hp.write {G : am_G} {Zc : am_Z} {n : Nat} {K : Nat → am_K} {I I' : Nat → Nat → Int} {L L' : Nat → Nat → Int} {R R' : Nat → Nat → Option Nat} {H H1 : Heap} {a : Nat} (h : am_Hp G Zc (n, K, I, L, R) H) (ha : am_nc ≤ a) (hI : ∀ b, b ≠ a → I' b = I b) (hL : ∀ b, b ≠ a → L' b = L b) (hR : ∀ b, b ≠ a → R' b = R b) (z : H1.size = H.size) (oq : ∀ q, q ≠ am_r G a → H1[q]? = H[q]?) (hc : am_cell G K I' L' R' a H1) (hrg : am_Rg I' L') : am_Hp G Zc (n, K, I', L', R') H1 := by
  obtain ⟨h1, h2, h3, h4, h5, h6⟩ := h
  refine ⟨h1, z.trans h2, h3, fun b hb hbn => ?_, fun b hb => ?_, hrg⟩
  · by_cases e : b = a
    · subst e; exact hc
    · exact am_cell_other rfl (hI b e) (hL b e) (hR b e) (oq _ (fun q => e (am_r_inj hb ha q))) (h4 b hb hbn)
  · have e : b ≠ a := by omega
    obtain ⟨g1, g2, g3⟩ := h5 b hb
    exact ⟨g1, (hI b e).trans g2, (hR b e).trans g3⟩
theorem am_Hp.lt {G : am_G} {Zc : am_Z} {n : Nat} {K : Nat → am_K} {I : Nat → Nat → Int} {L : Nat → Nat → Int} {R : Nat → Nat → Option Nat} {H : Heap} (h : am_Hp G Zc (n, K, I, L, R) H) {a : Nat} (hk : K a ≠ .inr (99, 0)) : a < n := by
  rcases Nat.lt_or_ge a n with q | q
  · exact q
  · exact absurd (h.2.2.1 a q) hk
/-- a new cell -/
theorem am_Hp.grow {G : am_G} {Zc : am_Z} {n : Nat} {K : Nat → am_K} {I : Nat → Nat → Int} {L : Nat → Nat → Int} {R : Nat → Nat → Option Nat} {H H1 : Heap} {v : am_K} (h : am_Hp G Zc (n, K, I, L, R) H) (z : H1.size = H.size + 1) (oq : ∀ q, q < H.size → H1[q]? = H[q]?) (hc : am_cell G (am_uK K n v) (am_z I n 0) (am_z L n 0) (am_z R n none) n H1) : am_Hp G Zc (n + 1, am_uK K n v, am_z I n 0, am_z L n 0, am_z R n none) H1 := by
  obtain ⟨h1, h2, h3, h4, h5, h6⟩ := h
  refine ⟨by omega, by rw [z, h2]; omega, fun a ha => ?_, fun a ha han => ?_, fun a ha => ?_, am_Rg_z h6⟩
  · rw [am_uK_ne (by omega)]
    exact h3 a (by omega)
  · by_cases e : a = n
    · subst e; exact hc
    · refine am_cell_other (am_uK_ne e) (am_z_row e) (am_z_row e) (am_z_row e) (oq _ ?_) (h4 a ha (by omega))
      unfold am_r am_rho
      rw [if_neg (by omega), h2]
      omega
  · rw [am_uK_ne (by omega), am_z_row (by omega), am_z_row (by omega)]
    exact h5 a ha
theorem am_Hp.top {G : am_G} {Zc : am_Z} {n : Nat} {K : Nat → am_K} {I : Nat → Nat → Int} {L : Nat → Nat → Int} {R : Nat → Nat → Option Nat} {H : Heap} (h : am_Hp G Zc (n, K, I, L, R) H) : H.size = am_r G n := by
  unfold am_r am_rho
  rw [if_neg (by have := h.1; omega)]
  exact h.2.1
/-- the locals -/
def am_prs (ρ : Nat → Nat) : Nat → List am_V → List (Nat × Value)
  | _, [] => []
  | i, .inr (.inr none) :: vs => am_prs ρ (i + 1) vs
  | i, v :: vs => (i, am_cv ρ v) :: am_prs ρ (i + 1) vs
def am_un : am_V → Bool
  | .inr (.inr none) => true
  | _ => false
theorem am_prs_cons (ρ : Nat → Nat) (i : Nat) (v : am_V) (vs : List am_V) : am_prs ρ i (v :: vs) = if am_un v = true then am_prs ρ (i + 1) vs else (i, am_cv ρ v) :: am_prs ρ (i + 1) vs := by
  match v with
  | .inl x => rfl
  | .inr (.inl a) => rfl
  | .inr (.inr (some x)) => rfl
  | .inr (.inr none) => rfl
theorem am_prs_mem {ρ : Nat → Nat} : ∀ (vs : List am_V) (i : Nat) (q : Nat × Value), q ∈ am_prs ρ i vs ↔ ∃ (j : Nat) (v : am_V), vs[j]? = some v ∧ am_un v = false ∧ q = (i + j, am_cv ρ v) := by
  intro vs
  induction vs with
  | nil => intro i q; simp [am_prs]
  | cons v vs ih =>
    intro i q
    rw [am_prs_cons]
    constructor
    · intro h
      split at h
      · obtain ⟨j, w, h1, h2, h3⟩ := (ih _ _).mp h
        exact ⟨j + 1, w, by simpa using h1, h2, by rw [h3]; congr 1; omega⟩
      · rename_i hv
        rcases List.mem_cons.mp h with h | h
        · exact ⟨0, v, rfl, by simpa using hv, by rw [h]; rfl⟩
        · obtain ⟨j, w, h1, h2, h3⟩ := (ih _ _).mp h
          exact ⟨j + 1, w, by simpa using h1, h2, by rw [h3]; congr 1; omega⟩
    · rintro ⟨j, w, h1, h2, h3⟩
      cases j with
      | zero =>
        simp at h1
        subst h1
        rw [if_neg (by rw [h2]; decide), h3]
        exact List.mem_cons_self
      | succ j =>
        have h4 : q ∈ am_prs ρ (i + 1) vs := (ih _ _).mpr ⟨j, w, by simpa using h1, h2, by rw [h3]; congr 1; omega⟩
        split
        · exact h4
        · exact List.mem_cons_of_mem _ h4
abbrev am_lh (ρ : Nat → Nat) (lsA : Array Slot) (n : Nat) (ls : List am_V) : Prop := lv_has lsA n (am_prs ρ 0 ls)
theorem am_lh_at {ρ : Nat → Nat} {lsA : Array Slot} {n : Nat} {ls : List am_V} (h : am_lh ρ lsA n ls) {i : Nat} {v : am_V} (hv : ls[i]? = some v) (hu : am_un v = false) : lsA[i]? = some (.val (am_cv ρ v)) := by
  have h1 := h.2.2 (i, am_cv ρ v) ((am_prs_mem ls 0 _).mpr ⟨i, v, hv, hu, by simp⟩)
  exact h1
theorem am_clr_get {ls : List am_V} {i j : Nat} {v : am_V} (hj : (am_clr ls i)[j]? = some v) (hu : am_un v = false) : ls[j]? = some v ∧ ¬ (j + 1 = i ∧ am_cat v = 2) := by
  unfold am_clr at hj
  split at hj
  · exact ⟨hj, by omega⟩
  · rename_i i
    split at hj
    · rename_i x e
      by_cases hji : j = i
      · subst hji
        rw [List.getElem?_set_self (List.getElem?_eq_some_iff.mp e).1] at hj
        cases hj
        exact absurd hu (by decide)
      · rw [List.getElem?_set_ne (Ne.symm hji)] at hj
        exact ⟨hj, fun q => hji (by omega)⟩
    · rename_i e1
      refine ⟨hj, fun q => ?_⟩
      have hji : j = i := by omega
      subst hji
      match v, hj, q with
      | .inl x, _, q => exact absurd (show 1 = 2 from q.2) (by decide)
      | .inr (.inl a), _, q => exact absurd (show 1 = 2 from q.2) (by decide)
      | .inr (.inr none), _, q => exact absurd q.2 (by decide)
      | .inr (.inr (some x)), hj, _ => exact e1 x hj
theorem am_lh_st1 {ρ : Nat → Nat} {lsA : Array Slot} {n : Nat} {ls : List am_V} {i : Nat} {v : am_V} (h : lv_has lsA n ((i, am_cv ρ v) :: (am_prs ρ 0 ls).filter (fun q => !(q.1 == i) && !(q.1 + 1 == i && q.2.category == 2)))) : am_lh ρ lsA n (am_st1 ls i v) := by
  refine ⟨h.1, h.2.1, fun q hq => h.2.2 q ?_⟩
  obtain ⟨j, w, h1, h2, h3⟩ := (am_prs_mem _ _ _).mp hq
  rw [Nat.zero_add] at h3
  subst h3
  unfold am_st1 at h1
  by_cases e : j = i
  · subst e
    rw [List.getElem?_set] at h1
    simp at h1
    obtain ⟨-, rfl⟩ := h1
    exact List.mem_cons_self
  · rw [List.getElem?_set_ne (Ne.symm e)] at h1
    obtain ⟨g1, g2⟩ := am_clr_get h1 h2
    refine List.mem_cons_of_mem _ (List.mem_filter.mpr ⟨(am_prs_mem _ _ _).mpr ⟨j, w, g1, h2, by simp⟩, ?_⟩)
    rw [← am_cv_cat ρ w] at g2
    simp only [Bool.and_eq_true, Bool.not_eq_true', beq_eq_false_iff_ne, Bool.and_eq_false_iff, beq_iff_eq]
    refine ⟨e, ?_⟩
    by_cases e2 : j + 1 = i
    · exact Or.inr (fun q => g2 ⟨e2, q⟩)
    · exact Or.inl e2
theorem am_lh_st2 {ρ : Nat → Nat} {lsA : Array Slot} {n : Nat} {ls : List am_V} {i : Nat} {v : am_V} (h : lv_has lsA n ((i, am_cv ρ v) :: (am_prs ρ 0 ls).filter (fun q => !(q.1 == i) && (!(q.1 == i + 1) && !(q.1 + 1 == i && q.2.category == 2))))) : am_lh ρ lsA n (am_st2 ls i v) := by
  refine ⟨h.1, h.2.1, fun q hq => h.2.2 q ?_⟩
  obtain ⟨j, w, h1, h2, h3⟩ := (am_prs_mem _ _ _).mp hq
  rw [Nat.zero_add] at h3
  subst h3
  unfold am_st2 at h1
  by_cases e1 : j = i + 1
  · subst e1
    rw [List.getElem?_set] at h1
    simp at h1
    obtain ⟨-, rfl⟩ := h1
    exact absurd h2 (by decide)
  · rw [List.getElem?_set_ne (Ne.symm e1)] at h1
    by_cases e : j = i
    · subst e
      rw [List.getElem?_set] at h1
      simp at h1
      obtain ⟨-, rfl⟩ := h1
      exact List.mem_cons_self
    · rw [List.getElem?_set_ne (Ne.symm e)] at h1
      obtain ⟨g1, g2⟩ := am_clr_get h1 h2
      refine List.mem_cons_of_mem _ (List.mem_filter.mpr ⟨(am_prs_mem _ _ _).mpr ⟨j, w, g1, h2, by simp⟩, ?_⟩)
      rw [← am_cv_cat ρ w] at g2
      simp only [Bool.and_eq_true, Bool.not_eq_true', beq_eq_false_iff_ne, Bool.and_eq_false_iff, beq_iff_eq]
      refine ⟨e, e1, ?_⟩
      by_cases e2 : j + 1 = i
      · exact Or.inr (fun q => g2 ⟨e2, q⟩)
      · exact Or.inl e2
theorem am_pad_get : ∀ (vs : List am_V) (n j : Nat) (v : am_V), (am_pad vs n)[j]? = some v → am_un v = false → vs[j]? = some v := by
  intro vs
  induction vs with
  | nil =>
    intro n j v h hu
    rw [am_pad, List.getElem?_replicate] at h
    split at h
    · cases h; exact absurd hu (by decide)
    · cases h
  | cons w vs ih =>
    intro n j v h hu
    cases j with
    | zero => simpa [am_pad] using h
    | succ j =>
      rw [am_pad, List.getElem?_cons_succ] at h
      rw [List.getElem?_cons_succ]
      exact ih _ _ _ h hu
theorem am_fl_args {ρ : Nat → Nat} : ∀ (vs : List am_V) (i j : Nat) (v : am_V), (am_fl vs)[j]? = some v → am_un v = false → (i + j, am_cv ρ v) ∈ lv_args i (vs.map (am_cv ρ)) := by
  intro vs
  induction vs with
  | nil => intro i j v h; simp [am_fl] at h
  | cons w vs ih =>
    intro i j v h hu
    have two : ∀ (h' : (w :: .inr (.inr none) :: am_fl vs)[j]? = some v) (hc : am_cat w = 2), (i + j, am_cv ρ v) ∈ lv_args i ((w :: vs).map (am_cv ρ)) := by
      intro h' hc
      rw [List.map_cons, lv_args, am_cv_cat, if_pos hc]
      match j, h' with
      | 0, h' =>
        simp at h'
        subst h'
        exact List.mem_cons_self
      | 1, h' =>
        simp at h'
        subst h'
        exact absurd hu (by decide)
      | j + 2, h' =>
        have h2 := ih (i + 2) j v (by simpa using h') hu
        rw [show i + (j + 2) = i + 2 + j by omega]
        exact List.mem_cons_of_mem _ h2
    have one : ∀ (h' : (w :: am_fl vs)[j]? = some v) (hc : am_cat w ≠ 2), (i + j, am_cv ρ v) ∈ lv_args i ((w :: vs).map (am_cv ρ)) := by
      intro h' hc
      rw [List.map_cons, lv_args, am_cv_cat, if_neg hc]
      match j, h' with
      | 0, h' =>
        simp at h'
        subst h'
        exact List.mem_cons_self
      | j + 1, h' =>
        have h2 := ih (i + 1) j v (by simpa using h') hu
        rw [show i + (j + 1) = i + 1 + j by omega]
        exact List.mem_cons_of_mem _ h2
    match w, h, one, two with
    | .inl x, h, one, _ => exact one h (fun q => absurd (show 1 = 2 from q) (by decide))
    | .inr (.inl a), h, one, _ => exact one h (fun q => absurd (show 1 = 2 from q) (by decide))
    | .inr (.inr none), h, one, _ => exact one h (by decide)
    | .inr (.inr (some x)), h, _, two => exact two h rfl
theorem am_lh_entry {ρ : Nat → Nat} {lsA : Array Slot} {n : Nat} {as : List am_V} (h : lv_has lsA n (lv_args 0 (as.map (am_cv ρ)))) : am_lh ρ lsA n (am_pad (am_fl as) n) := by
  refine ⟨h.1, h.2.1, fun q hq => ?_⟩
  obtain ⟨j, v, h1, h2, rfl⟩ := (am_prs_mem _ _ _).mp hq
  exact h.2.2 _ (am_fl_args as 0 j v (am_pad_get _ _ _ _ h1 h2) h2)
