/-! THE TYPES of a text -/
theorem am_u_off {f : Nat → Nat → Int} {a k x j : Nat} {v : Int} (h : ¬ (x = a ∧ j = k)) : am_u f a k v x j = f x j := by
  unfold am_u
  split
  · rename_i e
    split
    · rename_i e2; exact absurd ⟨e, e2⟩ h
    · rfl
  · rfl
abbrev ty : Type := Bool × List Nat
def cs_sz (as : List Nat) : Nat := ls_sz (fun a => a + 2) as
def ty_sz (t : ty) : Nat := 3 + cs_sz t.2
def cs_sp (kd : Nat → Int) : Nat → List Nat → Prop
  | _, [] => False
  | q, a :: as => kd q = 3 ∧ a ≤ 3 ∧ (∀ z : Nat, z < a → kd (q + 1 + z) = 2) ∧ (as = [] ∧ kd (q + 1 + a) = 59 ∨ as ≠ [] ∧ kd (q + 1 + a) = 124 ∧ cs_sp kd (q + (a + 2)) as)
def cs_bd (kd : Nat → Int) (nw : Bool) : Nat → Nat → Nat → Prop
  | 0, q, k => k = q
  | y + 1, q, k => kd q ≠ 3 ∧ k = q ∨ kd q = 3 ∧ ∃ a : Nat, a ≤ 3 ∧ (∀ z : Nat, z < a → kd (q + 1 + z) = 2) ∧ (nw = true ∧ a = 0 ∧ kd (q + 1 + a) ≠ 2 ∧ k = q + 1 + a ∨ nw = true ∧ a = 1 ∧ kd (q + 1 + a) ≠ 59 ∧ k = q + 1 + a ∨ nw = false ∧ (a = 3 ∨ kd (q + 1 + a) ≠ 2) ∧ kd (q + 1 + a) ≠ 59 ∧ kd (q + 1 + a) ≠ 124 ∧ k = q + 1 + a ∨ nw = false ∧ kd (q + 1 + a) = 124 ∧ cs_bd kd nw y (q + (a + 2)) k)
def ty_sp (kd : Nat → Int) (p : Nat) (t : ty) : Prop := kd p = (bif t.1 then 7 else 6) ∧ kd (p + 1) = 2 ∧ kd (p + 2) = 61 ∧ cs_sp kd (p + 3) t.2 ∧ t.2.length ≤ 6 ∧ (t.1 = true → t.2 = [1])
def ty_bd (kd : Nat → Int) (nw : Bool) (p k : Nat) : Prop := kd (p + 1) ≠ 2 ∧ k = p + 1 ∨ kd (p + 1) = 2 ∧ kd (p + 2) ≠ 61 ∧ k = p + 2 ∨ kd (p + 1) = 2 ∧ kd (p + 2) = 61 ∧ cs_bd kd nw 6 (p + 3) k
def ts_sp (kd : Nat → Int) : Nat → List ty → Nat → Prop := ls_sp (fun p t j => ty_sp kd p t ∧ j = p + ty_sz t)
def ts_bd (kd : Nat → Int) : Nat → Nat → Nat → Prop
  | 0, p, k => (kd p = 6 ∨ kd p = 7) ∧ k = p + 1 ∨ kd p ≠ 6 ∧ kd p ≠ 7 ∧ kd p ≠ 8 ∧ k = p
  | y + 1, p, k => y = 5 ∧ kd p = 8 ∧ k = p ∨ kd p ≠ 6 ∧ kd p ≠ 7 ∧ kd p ≠ 8 ∧ k = p ∨ (∃ nw : Bool, kd p = (bif nw then 7 else 6) ∧ ty_bd kd nw p k) ∨ ∃ t : ty, ty_sp kd p t ∧ ts_bd kd y (p + ty_sz t) k
section XS
variable (I J : Nat → Nat → Int) (r : Nat) (pl nu nm : Nat → Int)
def xs_cons (T : Nat) : Nat → Nat → List Nat → Prop
  | _, _, [] => True
  | C, q, a :: as => I (r + 5) C = (T : Int) ∧ I (r + 6) C = (a : Int) ∧ J (r + 7) C = nm q ∧ I (r + 11) C = pl q ∧ (∀ z : Nat, z < a → I (r + 12) (3 * C + z) = nu (q + 1 + z) ∧ I (r + 13) (3 * C + z) = pl (q + 1 + z)) ∧ xs_cons T (C + 1) (q + (a + 2)) as
def xs_types : Nat → Nat → Nat → List ty → Prop
  | _, _, _, [] => True
  | T, C, p, t :: ts => I (r + 9) T = nu (p + 1) ∧ I (r + 10) T = pl (p + 1) ∧ I (r + 2) T = xt_v t.1 ∧ I (r + 3) T = (C : Int) ∧ I (r + 4) T = (t.2.length : Int) ∧ xs_cons I J r pl nu nm T C (p + 3) t.2 ∧ xs_types (T + 1) (C + t.2.length) (p + ty_sz t) ts
end XS
def ts_cn : List ty → Nat := ls_sz (fun t => t.2.length)
/-- what reading TYPES changes -/
def xy_fr (r T C : Nat) (I I' J J' : Nat → Nat → Int) : Prop := (∀ x j : Nat, ¬ (x = 13 ∧ j = 7) → ¬ (x = r + 1 ∧ (j = 0 ∨ j = 1)) → ¬ ((x = r + 2 ∨ x = r + 3 ∨ x = r + 4 ∨ x = r + 9 ∨ x = r + 10) ∧ T ≤ j) → ¬ ((x = r + 5 ∨ x = r + 6 ∨ x = r + 11) ∧ C ≤ j) → ¬ ((x = r + 12 ∨ x = r + 13) ∧ 3 * C ≤ j) → I' x j = I x j) ∧ ∀ x j : Nat, ¬ (x = r + 7 ∧ C ≤ j) → J' x j = J x j
theorem xy_refl {r T C : Nat} {I J : Nat → Nat → Int} : xy_fr r T C I I J J := ⟨fun _ _ _ _ _ _ _ => rfl, fun _ _ _ => rfl⟩
theorem xy_trans {r T C T' C' : Nat} {I I1 I2 J J1 J2 : Nat → Nat → Int} (h : xy_fr r T C I I1 J J1) (h' : xy_fr r T' C' I1 I2 J1 J2) (hT : T ≤ T') (hC : C ≤ C') : xy_fr r T C I I2 J J2 :=
  ⟨fun x j g1 g2 g3 g4 g5 => (h'.1 x j g1 g2 (by omega) (by omega) (by omega)).trans (h.1 x j g1 g2 g3 g4 g5), fun x j g => (h'.2 x j (by omega)).trans (h.2 x j g)⟩
theorem xy_up {r T C a k : Nat} {I J : Nat → Nat → Int} {v : Int} (h : (a = 13 ∧ k = 7) ∨ (a = r + 1 ∧ (k = 0 ∨ k = 1)) ∨ ((a = r + 2 ∨ a = r + 3 ∨ a = r + 4 ∨ a = r + 9 ∨ a = r + 10) ∧ T ≤ k) ∨ ((a = r + 5 ∨ a = r + 6 ∨ a = r + 11) ∧ C ≤ k) ∨ ((a = r + 12 ∨ a = r + 13) ∧ 3 * C ≤ k)) : xy_fr r T C I (am_u I a k v) J J :=
  ⟨fun x j g1 g2 g3 g4 g5 => am_u_off (by rintro ⟨rfl, rfl⟩; rcases h with h | h | h | h | h <;> contradiction), fun _ _ _ => rfl⟩
theorem xy_J {r T C k : Nat} {I J : Nat → Nat → Int} {v : Int} (h : C ≤ k) : xy_fr r T C I I J (am_u J (r + 7) k v) :=
  ⟨fun _ _ _ _ _ _ _ => rfl, fun x j g => am_u_off (by rintro ⟨rfl, rfl⟩; exact g ⟨rfl, h⟩)⟩
theorem xs_cons_fr {r T' C' : Nat} {I I' J J' : Nat → Nat → Int} {pl nu nm : Nat → Int} {T : Nat} (hf : xy_fr r T' C' I I' J J') (hr : r = 41 ∨ r = 71) : ∀ (as : List Nat) (C q : Nat), (∀ a ∈ as, a ≤ 3) → xs_cons I J r pl nu nm T C q as → C + as.length ≤ C' → xs_cons I' J' r pl nu nm T C q as := by
  intro as
  induction as with
  | nil => intro C q _ _ _; exact trivial
  | cons a as ih =>
    intro C q ha3 h hC
    obtain ⟨h1, h2, h3, h4, h5, h6⟩ := h
    have hC : C + (as.length + 1) ≤ C' := hC
    have h3' := ha3 a List.mem_cons_self
    refine ⟨?_, ?_, ?_, ?_, fun z hz => ⟨?_, ?_⟩, ih (C + 1) (q + (a + 2)) (fun x hx => ha3 x (List.mem_cons_of_mem _ hx)) h6 (by omega)⟩
    · rw [hf.1 _ _ (by omega) (by omega) (by omega) (by omega) (by omega)]; exact h1
    · rw [hf.1 _ _ (by omega) (by omega) (by omega) (by omega) (by omega)]; exact h2
    · rw [hf.2 _ _ (by omega)]; exact h3
    · rw [hf.1 _ _ (by omega) (by omega) (by omega) (by omega) (by omega)]; exact h4
    · rw [hf.1 _ _ (by omega) (by omega) (by omega) (by omega) (by omega)]; exact (h5 z hz).1
    · rw [hf.1 _ _ (by omega) (by omega) (by omega) (by omega) (by omega)]; exact (h5 z hz).2
theorem cs_sp_le {kd : Nat → Int} : ∀ (as : List Nat) (q : Nat), cs_sp kd q as → ∀ a ∈ as, a ≤ 3 := by
  intro as
  induction as with
  | nil => intro q h; exact h.elim
  | cons a as ih =>
    intro q h x hx
    obtain ⟨h1, h2, h3, h4⟩ := h
    rcases List.mem_cons.mp hx with e | e
    · rw [e]; exact h2
    · rcases h4 with h | h
      · rw [h.1] at e; exact absurd e (by simp)
      · exact ih _ h.2.2 x e
theorem am_kq {K : Nat → am_K} {R : Nat → Nat → Option Nat} {r i : Nat} {v : am_K} (hB : am_B K R) (hr : r = 41 ∨ r = 71) (hi : i < 30) (e : am_Kt (41 + i) = some (41 + i, v)) : K (r + i) = v := by
  rcases hr with h | h
  · subst h; exact am_kk hB e
  · subst h
    have : ∀ i : Nat, i < 30 → am_Kt (71 + i) = (am_Kt (41 + i)).map (fun q => (71 + i, q.2)) := by decide
    refine am_kk hB ?_
    rw [this i hi, e]; rfl
theorem am_rq {K : Nat → am_K} {R : Nat → Nat → Option Nat} {r i k j : Nat} (hB : am_B K R) (hr : r = 41 ∨ r = 71) (h : (Nat.ble i 29 && Nat.ble k 14) = true) (e : am_Rt (41 + i) k = some (41 + i, k, 41 + j)) : R (r + i) k = some (r + j) := by
  have h2 : i ≤ 29 ∧ k ≤ 14 := by
    rw [Bool.and_eq_true, Nat.ble_eq, Nat.ble_eq] at h; exact h
  rcases hr with g | g
  · subst g; exact am_rf hB e
  · subst g
    have : ∀ i : Nat, i < 30 → ∀ k : Nat, k < 15 → am_Rt (71 + i) k = (am_Rt (41 + i) k).map (fun q => (71 + i, k, q.2.2 + 30)) := by decide +kernel
    refine am_rf hB ?_
    rw [this i (by omega) k (by omega), e]
    show some (71 + i, k, 41 + j + 30) = _
    rw [show 41 + j + 30 = 71 + j by omega]
