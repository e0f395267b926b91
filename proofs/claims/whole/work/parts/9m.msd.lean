/-! SEARCH: the reference's search -/
theorem cnt_lt {T : Type} {p q : T → Bool} : ∀ l : List T, (∀ x ∈ l, q x = true → p x = true) → (∃ x ∈ l, p x = true ∧ q x = false) → l.countP q < l.countP p := by
  intro l
  induction l with
  | nil => rintro _ ⟨x, hx, _⟩; exact absurd hx (by simp)
  | cons y l ih =>
    intro h1 h2
    have hle : l.countP q ≤ l.countP p := List.countP_mono_left (fun x hx => h1 x (List.mem_cons_of_mem _ hx))
    obtain ⟨x, hx, hp, hq⟩ := h2
    rcases List.mem_cons.mp hx with e | e
    · subst e
      rw [List.countP_cons_of_pos hp, List.countP_cons_of_neg (by simp [hq])]
      omega
    · have := ih (fun z hz => h1 z (List.mem_cons_of_mem _ hz)) ⟨x, e, hp, hq⟩
      by_cases hy : q y = true
      · rw [List.countP_cons_of_pos hy, List.countP_cons_of_pos (h1 y List.mem_cons_self hy)]; omega
      · rw [List.countP_cons_of_neg hy]
        by_cases hy2 : p y = true
        · rw [List.countP_cons_of_pos hy2]; omega
        · rw [List.countP_cons_of_neg hy2]; omega
def opn (a : Nat → List (Nat × Int)) (nr : Nat) (K : Nat → Int) : Nat := ((List.range nr).flatMap a).countP (fun x => decide (K x.1 = -1))
theorem opn_ku {a : Nat → List (Nat × Int)} {nr ρ p : Nat} {K : Nat → Int} {w v : Int} (hρ : ρ < nr) (hx : (p, w) ∈ a ρ) (hp : K p = -1) (hv : v ≠ -1) : opn a nr (ku K p v) < opn a nr K := by
  refine cnt_lt _ (fun x _ h => ?_) ⟨(p, w), List.mem_flatMap.mpr ⟨ρ, List.mem_range.mpr hρ, hx⟩, by simpa using hp, by simpa [ku_eq] using hv⟩
  have h : ku K p v x.1 = -1 := by simpa using h
  by_cases e : x.1 = p
  · rw [e, ku_eq] at h; exact absurd h hv
  · rw [ku_ne e] at h; simpa using h
def sr_ch (a j : Nat) : Prop := (a = 101 ∧ j = 47) ∨ a = 128 ∨ a = 130 ∨ a = 131 ∨ a = 133 ∨ a = 134
def sr_fr (I I' : Nat → Nat → Int) : Prop := ∀ a j : Nat, ¬ sr_ch a j → I' a j = I a j
theorem sr_u {I I' : Nat → Nat → Int} {a j : Nat} {v : Int} (h : sr_fr I I') (hc : sr_ch a j) : sr_fr I (am_u I' a j v) := by
  intro b k hb
  rw [am_u_off (by rintro ⟨e1, e2⟩; exact hb (by rw [e1, e2]; exact hc))]
  exact h b k hb
theorem sr_n {I I' : Nat → Nat → Int} (h : sr_fr I I') {a j : Nat} (h1 : a ≠ 101 ∨ j ≠ 47) (h2 : a ≠ 128) (h3 : a ≤ 129 ∨ 135 ≤ a) : I' a j = I a j := h a j (by unfold sr_ch; omega)
theorem sE_fr {A : Nat → List (Nat × Int)} {g : Nat → Bool} {s nr ah : Nat} {K0 K : Nat → Int} {I0 I : Nat → Nat → Int} (h : sE A g s nr ah K0 I0) (hf : sr_fr I0 I) (hK : ∀ q : Nat, q < 65536 → I 128 q = K q) : sE A g s nr ah K I := by
  obtain ⟨e1, e2, e3, e4, e5, e6, -⟩ := h
  refine ⟨(sr_n hf (by omega) (by omega) (by omega)).trans e1, e2, e3, e4, (sr_n hf (by omega) (by omega) (by omega)).trans e5, fun ρ hρ => ?_, hK⟩
  obtain ⟨a1, a2, a3, a4⟩ := e6 ρ hρ
  refine ⟨⟨(sr_n hf (by omega) (by omega) (by omega)).trans a1.1, ?_⟩, a2, a3, (sr_n hf (by omega) (by omega) (by omega)).trans a4⟩
  have key : ∀ (B : List (Nat × Int)) (k : Nat), lsa I0 (12 * s + ρ) k B → lsa I (12 * s + ρ) k B := by
    intro B
    induction B with
    | nil => intro k _; exact trivial
    | cons x B ih => intro k hL; exact ⟨(sr_n hf (by omega) (by omega) (by omega)).trans hL.1, (sr_n hf (by omega) (by omega) (by omega)).trans hL.2.1, ih _ hL.2.2⟩
  exact key _ _ a1.2
theorem cE_fr {F I0 I : Nat → Nat → Int} {r s N m : Nat} (h : cE F r s N m I0) (hf : sr_fr I0 I) : cE F r s N m I := by
  obtain ⟨c1, c2, c3, c4, c5, c6, c7⟩ := h
  refine ⟨c1, c2, (sr_n hf (by omega) (by omega) (by omega)).trans c3, fun c hc => ?_, c5, c6, c7⟩
  obtain ⟨T, t1, t2, t3⟩ := c4 c hc
  exact ⟨T, t1, t2, (sr_n hf (by omega) (by omega) (by omega)).trans t3⟩
def sk (a : Nat) : Prop := a = 130 ∨ a = 131 ∨ a = 133 ∨ a = 134
def skp (h : Nat) (I I' : Nat → Nat → Int) : Prop := ∀ a j : Nat, sk a → j < h → I' a j = I a j
theorem skp_u {h : Nat} {I I' : Nat → Nat → Int} {a j : Nat} {v : Int} (hk : skp h I I') (hj : h ≤ j ∨ ¬ sk a) : skp h I (am_u I' a j v) := by
  intro b k hb hk'
  rw [am_u_off (by rintro ⟨e1, e2⟩; subst e1; subst e2; exact hj.elim (fun q => by omega) (fun q => q hb))]
  exact hk b k hb hk'
/-- the search has asked for a place -/
def PS (I0 Ib : Nat → Nat → Int) (h p : Nat) (K : Nat → Int) (y b o : Int) (I : Nat → Nat → Int) : Prop := sr_fr I0 I ∧ (∀ q : Nat, q < 65536 → I 128 q = K q) ∧ I 101 47 = ((h + 1 : Nat) : Int) ∧ I 130 h = (p : Int) ∧ I 131 h = y ∧ I 133 h = b ∧ I 134 h = o ∧ skp h Ib I
section PSL
variable {I0 Ib I : Nat → Nat → Int} {h p : Nat} {K : Nat → Int} {y b o : Int}
theorem PS_k {K1 : Nat → Int} {v : Int} (hP : PS I0 Ib h p K1 y b o I) (hK : ∀ q : Nat, q ≠ p → K1 q = K q) : PS I0 Ib h p (ku K p v) y b o (am_u I 128 p v) := by
  obtain ⟨a1, a2, a3, a4, a5, a6, a7, a8⟩ := hP
  refine ⟨sr_u a1 (Or.inr (Or.inl rfl)), fun q hq => ?_, (am_u_ne (by decide)).trans a3, (am_u_ne (by decide)).trans a4, (am_u_ne (by decide)).trans a5, (am_u_ne (by decide)).trans a6, (am_u_ne (by decide)).trans a7, skp_u a8 (Or.inr (by unfold sk; omega))⟩
  by_cases e : q = p
  · rw [e, am_u_kk, ku_eq]
  · rw [am_u_kn e, ku_ne e, a2 q hq]; exact hK q e
theorem PS_y {y' : Int} (hP : PS I0 Ib h p K y b o I) : PS I0 Ib h p K y' b o (am_u I 131 h y') := by
  obtain ⟨a1, a2, a3, a4, a5, a6, a7, a8⟩ := hP
  exact ⟨sr_u a1 (by unfold sr_ch; omega), fun q hq => (am_u_ne (by decide)).trans (a2 q hq), (am_u_ne (by decide)).trans a3, (am_u_ne (by decide)).trans a4, am_u_kk, (am_u_ne (by decide)).trans a6, (am_u_ne (by decide)).trans a7, skp_u a8 (Or.inl (Nat.le_refl _))⟩
theorem PS_o {o' : Int} (hP : PS I0 Ib h p K y b o I) : PS I0 Ib h p K y b o' (am_u I 134 h o') := by
  obtain ⟨a1, a2, a3, a4, a5, a6, a7, a8⟩ := hP
  exact ⟨sr_u a1 (by unfold sr_ch; omega), fun q hq => (am_u_ne (by decide)).trans (a2 q hq), (am_u_ne (by decide)).trans a3, (am_u_ne (by decide)).trans a4, (am_u_ne (by decide)).trans a5, (am_u_ne (by decide)).trans a6, am_u_kk, skp_u a8 (Or.inl (Nat.le_refl _))⟩
theorem PS_s {K1 : Nat → Int} {I1 : Nat → Nat → Int} (hP : PS I0 Ib h p K y b o I) (h1 : sr_fr I0 I1) (h2 : ∀ q : Nat, q < 65536 → I1 128 q = K1 q) (h3 : I1 101 47 = ((h + 1 : Nat) : Int)) (h4 : skp (h + 1) I I1) : PS I0 Ib h p K1 y b o I1 := by
  obtain ⟨a1, a2, a3, a4, a5, a6, a7, a8⟩ := hP
  refine ⟨h1, h2, h3, (h4 130 h (by unfold sk; omega) (by omega)).trans a4, (h4 131 h (by unfold sk; omega) (by omega)).trans a5, (h4 133 h (by unfold sk; omega) (by omega)).trans a6, (h4 134 h (by unfold sk; omega) (by omega)).trans a7, fun a j ha hj => (h4 a j ha (by omega)).trans (a8 a j ha hj)⟩
end PSL
theorem ku_back {K K1 : Nat → Int} {p : Nat} {v : Int} (hp : K p = v) (h : ∀ q : Nat, q ≠ p → K1 q = K q) : ku K p v = K := by
  funext q
  by_cases e : q = p
  · rw [e, ku_eq, hp]
  · rw [ku_ne e]
section MSD
variable {d n : Nat} {C : Nat → am_K} {J : Nat → Nat → Int} {R : Nat → Nat → Option Nat} {A : Nat → List (Nat × Int)} {g : Nat → Bool} {s nr ah : Nat} {K0 : Nat → Int} {I0 F : Nat → Nat → Int} {r N m : Nat}
/-- at 136 again, with a place open: what is tried next -/
theorem m_again {Q : am_Q} {Ib I : Nat → Nat → Int} {h p : Nat} {K K1 : Nat → Int} {y b o : Int} (hB : am_B C R) (hP : PS I0 Ib h p K1 y b o I) (hK : ∀ q : Nat, q ≠ p → K1 q = K q) (hp : K p = -1) (h2 : h < 200) (p2 : p < 65536) (hs : I0 101 14 = (s : Int)) (s2 : s < 2) (hb : b = 0 ∨ b = 1)
    (con : b = 0 → 0 ≤ y → ∀ I' : Nat → Nat → Int, PS I0 Ib h p K y b o I' → ∃ (c : Nat) (L : Int), y = (c : Int) ∧ c < 36 ∧ I' 111 (36 * s + c) = L ∧ am_WP (d + 2) (am_entry 63 [.inr (.inl 101), .inl (h : Int), .inl (p : Int), .inl L, .inl ((c : Int) + 1)] (n, C, I', J, R)) (fun v s2 => ∃ z : Int, v = some (.inl z) ∧ am_WP (d + 3) (67, 253, [.inr (.inl 101), .inl 1, .inl 0, .inl (h : Int), .inl (p : Int), .inl y, am_o], [.inl z], (0, 0), s2) Q))
    (first : b = 0 → y < 0 → ∀ I' : Nat → Nat → Int, PS I0 Ib h p K y b o I' → -100 ≤ y ∧ am_WP (d + 2) (am_entry 66 [.inr (.inl 101), .inl (y + 100)] (n, C, I', J, R)) (fun v s2 => ∃ z : Int, v = some (.inl z) ∧ am_WP (d + 3) (67, 221, [.inr (.inl 101), .inl 1, .inl 0, .inl (h : Int), .inl (p : Int), .inl y, am_o], [.inl z, .inl (y + 100), .inl (p : Int), .inl (h : Int), .inr (.inl 101)], (0, 0), s2) Q))
    (num : b = 1 → ∀ I' : Nat → Nat → Int, PS I0 Ib h p K y b o I' → am_WP (d + 2) (am_entry 65 [.inr (.inl 101), .inl (p : Int), .inl y] (n, C, I', J, R)) (fun v s2 => ∃ z : Int, v = some (.inl z) ∧ am_WP (d + 3) (67, 195, [.inr (.inl 101), .inl 1, .inl 0, .inl (h : Int), .inl (p : Int), .inl y, am_o], [.inl z], (0, 0), s2) Q)) :
    am_WP (d + 3) (67, 136, [.inr (.inl 101), .inl 1, .inl 0, am_o, am_o, am_o, am_o], [], (0, 0), n, C, I, J, R) Q := by
  have hPk := PS_k (v := -1) hP hK
  rw [ku_back hp hK] at hPk
  obtain ⟨a1, a2, a3, a4, a5, a6, a7, a8⟩ := hP
  refine s_M_search_136 ⟨(am_kk hB rfl), am_nm_k a3 ?_⟩
  rintro _ rfl _ _
  refine ⟨fun h => absurd h (by omega), fun _ => ⟨fun h => absurd rfl h, fun _ => ⟨(am_kk hB rfl), am_nm_k a3 ?_⟩⟩⟩
  rintro _ rfl _ _
  refine am_ar_i (by omega) (by omega) ?_
  rw [show ((h + 1 : Nat) : Int) - 1 = (h : Int) by omega]
  refine ⟨(am_kk hB rfl), 130, (am_rf hB rfl), _, (am_kk hB rfl), ⟨by omega, by omega⟩, am_nm_k a4 ?_⟩
  rintro _ rfl _ _
  refine ⟨(am_kk hB rfl), 128, (am_rf hB rfl), _, by decide, (am_kk hB rfl), ⟨by omega, by omega⟩, (am_kk hB rfl), 131, (am_rf hB rfl), _, (am_kk hB rfl), ⟨by omega, by omega⟩, ?_⟩
  show am_nm (am_u I 128 p (-1) 131 h) _
  obtain ⟨b1, b2, b3, b4, b5, b6, b7, b8⟩ := hPk
  refine am_nm_k b5 (fun z hz _ _ => ?_)
  subst hz
  refine ⟨(am_kk hB rfl), 133, (am_rf hB rfl), _, Or.inl ⟨by decide, (am_kk hB rfl)⟩, ⟨by omega, by omega⟩, am_nm_k b6 (fun z hz _ _ => ?_)⟩
  subst hz
  refine ⟨fun hb0 => ⟨fun hy => ?_, fun hy => ?_⟩, fun hb0 => ⟨(am_kk hB rfl), num (by omega) _ ⟨b1, b2, b3, b4, b5, b6, b7, b8⟩⟩⟩
  · obtain ⟨c, L, e1, e2, e3, e4⟩ := con hb0 hy _ ⟨b1, b2, b3, b4, b5, b6, b7, b8⟩
    refine ⟨(am_kk hB rfl), 111, (am_rf hB rfl), (am_kk hB rfl), am_nm_k ((sr_n b1 (by omega) (by omega) (by omega)).trans hs) ?_⟩
    rintro _ rfl _ _
    refine am_ar_i (by omega) (by omega) (am_ar_i (by omega) (by omega) ?_)
    rw [e1, show (36 : Int) * (s : Int) + (c : Int) = ((36 * s + c : Nat) : Int) by omega]
    refine ⟨_, (am_kk hB rfl), ⟨by omega, by omega⟩, am_nm_k e3 (fun z hz _ _ => am_ar_i (by omega) (by omega) ⟨(am_kk hB rfl), ?_⟩)⟩
    subst hz
    rw [e1] at e4
    exact e4
  · obtain ⟨e1, e2⟩ := first hb0 hy _ ⟨b1, b2, b3, b4, b5, b6, b7, b8⟩
    exact am_ar_i (by omega) (by omega) (am_ar_i (by omega) (by omega) ⟨(am_kk hB rfl), e2⟩)
/-- at 253 with nothing left to try -/
theorem m_pop {Q : am_Q} {Ib I : Nat → Nat → Int} {h p : Nat} {K : Nat → Int} {y b o x5 : Int} (hB : am_B C R) (hP : PS I0 Ib h p K y b o I) (h2 : h < 200) (go : ∀ I' : Nat → Nat → Int, sr_fr I0 I' → (∀ q : Nat, q < 65536 → I' 128 q = K q) → I' 101 47 = (h : Int) → skp h Ib I' → am_WP (d + 3) (67, 136, [.inr (.inl 101), .inl 1, .inl 0, am_o, am_o, am_o, am_o], [], (0, 0), n, C, I', J, R) Q) : am_WP (d + 3) (67, 253, [.inr (.inl 101), .inl 1, .inl 0, .inl (h : Int), .inl (p : Int), .inl x5, am_o], [.inl (-1)], (0, 0), n, C, I, J, R) Q := by
  obtain ⟨a1, a2, a3, a4, a5, a6, a7, a8⟩ := hP
  refine s_M_search_253 ⟨fun h => absurd h (by decide), fun _ => ⟨(am_kk hB rfl), am_nm_k a3 ?_⟩⟩
  rintro _ rfl _ _
  refine am_ar_i (by omega) (by omega) ⟨⟨by decide, (am_kk hB rfl)⟩, ?_⟩
  refine am_WP.forget (go _ (sr_u a1 (Or.inl ⟨rfl, rfl⟩)) (fun q hq => (am_u_ne (by decide)).trans (a2 q hq)) ?_ (skp_u a8 (Or.inr (by unfold sk; omega)))) _ (am_le_eq (am_le_eq (am_le_eq (am_le_o (am_le_o (am_le_o (am_le_o am_le_nil)))))))
  rw [am_u_kk]; omega
/-- at 253 with something to try -/
theorem m_try {Q : am_Q} {Ib I : Nat → Nat → Int} {h p : Nat} {K : Nat → Int} {y b o x5 z v : Int} (hB : am_B C R) (hP : PS I0 Ib h p K y b o I) (h2 : h < 200) (p2 : p < 65536) (hz : 0 ≤ z) (hz2 : z ≤ 2000) (hb : b = 0 ∧ v = z ∨ b = 1 ∧ v = 100 + z % 1000) (go : ∀ I' : Nat → Nat → Int, PS I0 Ib h p (ku K p v) z b o I' → am_WP (d + 3) (67, 7, [.inr (.inl 101), .inl 1, am_o, am_o, am_o, am_o, am_o], [], (0, 0), n, C, I', J, R) Q) : am_WP (d + 3) (67, 253, [.inr (.inl 101), .inl 1, .inl 0, .inl (h : Int), .inl (p : Int), .inl x5, am_o], [.inl z], (0, 0), n, C, I, J, R) Q := by
  have hPy := PS_y (y' := z) hP
  have hPv := PS_k (v := v) hPy (fun _ _ => rfl)
  have fin : ∀ x6 : am_V, am_WP (d + 3) (67, 310, [.inr (.inl 101), .inl 1, .inl 0, .inl (h : Int), .inl (p : Int), .inl x5, .inl z], [.inl v, .inl (p : Int), .inr (.inl 128)], (0, 0), n, C, am_u I 131 h z, J, R) Q := by
    intro _
    refine s_M_search_310 ⟨_, by decide, (am_kk hB rfl), ⟨by omega, by omega⟩, ?_⟩
    show am_WP (d + 3) (67, 136, [.inr (.inl 101), .inl 1, .inl 1, .inl (h : Int), .inl (p : Int), .inl x5, .inl z], [], (0, 0), n, C, am_u (am_u I 131 h z) 128 p v, J, R) Q
    revert hPv
    generalize am_u (am_u I 131 h z) 128 p v = I'
    intro hPv
    have g := go I' hPv
    obtain ⟨a1, a2, a3, a4, a5, a6, a7, a8⟩ := hPv
    refine am_WP.forget ?_ _ (am_le_eq (am_le_eq (am_le_eq (am_le_o (am_le_o (am_le_o (am_le_o am_le_nil)))))))
    refine s_M_search_136 ⟨(am_kk hB rfl), am_nm_k a3 ?_⟩
    rintro _ rfl _ _
    have g2 := am_WP.forget g [.inr (.inl 101), .inl 1, .inl 1, am_o, am_o, am_o, am_o] (am_le_eq (am_le_eq (am_le_o (am_le_o (am_le_o (am_le_o (am_le_o am_le_nil)))))))
    exact ⟨fun h => absurd h (by omega), fun _ => ⟨fun _ => ⟨fun _ => g2, fun h => absurd h (by decide)⟩, fun h => absurd h (by decide)⟩⟩
  obtain ⟨b1, b2, b3, b4, b5, b6, b7, b8⟩ := hPy
  refine s_M_search_253 ⟨fun _ => ⟨(am_kk hB rfl), 131, (am_rf hB rfl), _, by decide, (am_kk hB rfl), ⟨by omega, by omega⟩, (am_kk hB rfl), 128, (am_rf hB rfl), (am_kk hB rfl), 133, (am_rf hB rfl), _, Or.inl ⟨by decide, (am_kk hB rfl)⟩, ⟨by omega, by omega⟩, ?_⟩, fun h => absurd h (by omega)⟩
  show am_nm (am_u I 131 h z 133 h) _
  refine am_nm_k b6 (fun z' hz' _ _ => ?_)
  subst hz'
  refine ⟨fun e => ?_, fun e => ?_⟩
  · rcases hb with ⟨q1, q2⟩ | ⟨q1, q2⟩
    · have f := fin am_o
      rw [q2] at f
      exact f
    · exact absurd q1 (by omega)
  · rcases hb with ⟨q1, q2⟩ | ⟨q1, q2⟩
    · exact absurd q1 e
    · refine ⟨by decide, am_nm_k (am_rem_e ⟨hz, by omega⟩ (by decide)) (fun z'' hz'' _ _ => am_ar_i (by omega) (by omega) ?_)⟩
      subst hz''
      have f := fin am_o
      rw [q2] at f
      exact f
end MSD
