/-! MEANING: the class looks for a fault among types -/
section RG
variable (pl nu : Nat → Int)
def cs_rg : Nat → List Nat → Prop
  | _, [] => True
  | q, a :: as => a ≤ 3 ∧ 0 ≤ pl q ∧ (∀ z : Nat, z < a → (0 ≤ nu (q + 1 + z) ∧ nu (q + 1 + z) ≤ 25) ∧ 0 ≤ pl (q + 1 + z)) ∧ cs_rg (q + (a + 2)) as
def ts_rg : Nat → List ty → Prop
  | _, [] => True
  | p, t :: ts => (0 ≤ nu (p + 1) ∧ nu (p + 1) ≤ 25) ∧ 0 ≤ pl (p + 1) ∧ cs_rg pl nu (p + 3) t.2 ∧ ts_rg (p + ty_sz t) ts
end RG
theorem cs_rg_of {kd pl nu : Nat → Int} {c : Nat} (hR : ft_R kd nu c) (hP : ∀ k : Nat, k ≤ c → 0 ≤ pl k) : ∀ (as : List Nat) (q : Nat), cs_sp kd q as → q + cs_sz as ≤ c → cs_rg pl nu q as := by
  intro as
  induction as with
  | nil => intro q h; exact h.elim
  | cons a as ih =>
    intro q h hc
    obtain ⟨h1, h2, h3, h4⟩ := h
    have ez : cs_sz (a :: as) = (a + 2) + cs_sz as := rfl
    refine ⟨h2, hP q (by omega), fun z hz => ⟨(hR _ (by omega)).1 (h3 z hz), hP _ (by omega)⟩, ?_⟩
    rcases h4 with h | h
    · rw [h.1]; exact trivial
    · exact ih _ h.2.2 (by omega)
theorem ts_rg_of {kd pl nu : Nat → Int} {c : Nat} (hR : ft_R kd nu c) (hP : ∀ k : Nat, k ≤ c → 0 ≤ pl k) : ∀ (ts : List ty) (p j : Nat), ts_sp kd p ts j → j ≤ c → ts_rg pl nu p ts := by
  intro ts
  induction ts with
  | nil => intro p j _ _; exact trivial
  | cons t ts ih =>
    intro p j h hc
    have hj := ts_sp_sz _ _ _ h
    obtain ⟨m, ⟨h1, rfl⟩, h3⟩ := h
    obtain ⟨t1, t2, t3, t4, t5, t6⟩ := h1
    have ez : ts_sz (t :: ts) = ty_sz t + ts_sz ts := rfl
    have ey : ty_sz t = 3 + cs_sz t.2 := rfl
    exact ⟨(hR _ (by omega)).1 t2, hP _ (by omega), cs_rg_of hR hP _ _ t4 (by omega), ih _ j h3 hc⟩
theorem arf_nn {tyf : Int → Int} {pl nu : Nat → Int} {k : Int} : ∀ (a x : Nat), (∀ z : Nat, z < a → 0 ≤ pl (x + z)) → arf tyf pl nu x a = some k → 0 ≤ k := by
  intro a
  induction a with
  | zero => intro x _ h; exact absurd h (by simp [arf])
  | succ a ih =>
    intro x hp h
    have h' : (if tyf (nu x) = -1 then some (pl x) else arf tyf pl nu (x + 1) a) = some k := h
    by_cases e : tyf (nu x) = -1
    · rw [if_pos e] at h'
      have := Option.some.inj h'
      have := hp 0 (by omega)
      rw [Nat.add_zero] at this
      omega
    · rw [if_neg e] at h'
      refine ih (x + 1) (fun z hz => ?_) h'
      have := hp (z + 1) (by omega)
      rw [show x + 1 + z = x + (z + 1) by omega]; exact this
section XT
variable {d n : Nat} {K : Nat → am_K} {I0 J : Nat → Nat → Int} {R : Nat → Nat → Option Nat} {Q : am_Q} {pl nu nm : Nat → Int} {r m : Nat} {tyf : Int → Int}
theorem x_consF {T E : Nat} (hB : am_B K R) (hr : r = 41 ∨ r = 71) (hm : I0 (r + 1) 1 = (m : Int)) (hm2 : m ≤ 36) (hT : T < 6) (hE : E ≤ m) : ∀ (as : List Nat) (C q : Nat) (I : Nat → Nat → Int), xf_fr r I0 I → (∀ l : Nat, l < 26 → I (r + 14) l = tyf (l : Int)) → xs_cons I0 J r pl nu nm T C q as → cs_rg pl nu q as → C + as.length = E →
    (∀ I' : Nat → Nat → Int, xf_fr r I0 I' → (∀ l : Nat, l < 26 → I' (r + 14) l = tyf (l : Int)) → csf tyf (fx (J (r + 7)) m) pl nu nm C q as = none → ca_ok tyf I' r nu C q as → (∀ j : Nat, j < 3 * C → I' (r + 8) j = I (r + 8) j) → am_WP (d + 2) (169, 6, [.inr (.inl (r + 1)), .inl ((T + 1 : Nat) : Int), am_o, am_o, am_o], [], (0, 0), n, K, I', J, R) Q) →
    (∀ (I' : Nat → Nat → Int) (k : Int), xf_fr r I0 I' → csf tyf (fx (J (r + 7)) m) pl nu nm C q as = some k → 0 ≤ k → Q (some (.inl k)) (n, K, I', J, R)) → am_WP (d + 2) (169, 56, [.inr (.inl (r + 1)), .inl (T : Int), .inl (E : Int), .inl (C : Int), am_o], [], (0, 0), n, K, I, J, R) Q := by
  have k0 : K (r + 1) = .inl 10 := am_kq (i := 1) hB hr (by decide) rfl
  intro as
  induction as with
  | nil =>
    intro C q I hf hL hs hg hE2 ok bad
    have hE2 : C + 0 = E := hE2
    exact s_Types_findFault_56 ⟨fun _ => am_ar_i (by omega) (by omega) (am_WP.forget (ok I hf hL rfl trivial (fun _ _ => rfl)) _ (am_le_eq (am_le_eq (am_le_o (am_le_o (am_le_o am_le_nil)))))), fun h => absurd h (by omega)⟩
  | cons a as ih =>
    intro C q I hf hL hs hg hE2 ok bad
    have hE3 : C + (as.length + 1) = E := hE2
    obtain ⟨s1, s2, s3, s4, s5, s6⟩ := hs
    obtain ⟨g1, g2, g3, g4⟩ := hg
    refine s_Types_findFault_56 ⟨fun h => absurd h (by omega), fun _ => ⟨k0, r + 7, am_rq (i := 1) hB hr rfl rfl, _, by unfold am_nc; omega, am_kq hB hr (by decide) rfl, ⟨by omega, by omega⟩, am_nl_k s3 ?_⟩⟩
    rintro _ rfl _ _
    refine ⟨k0, x_conOf (m := m) hB hr ((hf _ _ (by omega) (by omega)).trans hm) hm2 ⟨_, rfl, s_Types_findFault_71 ⟨fun h => ⟨k0, ?_⟩, fun h => ⟨k0, r + 11, am_rq (i := 1) hB hr rfl rfl, _, am_kq hB hr (by decide) rfl, ⟨by omega, by omega⟩, am_nm_k ((hf _ _ (by omega) (by omega)).trans s4) ?_⟩⟩⟩⟩
    · refine x_args (C := C) (q := q) (a := a) (tyf := tyf) (pl := pl) (nu := nu) hB hr (by omega) ((hf _ _ (by omega) (by omega)).trans s2) g1 (fun z hz => ⟨(hf _ _ (by omega) (by omega)).trans (s5 z hz).1, (hf _ _ (by omega) (by omega)).trans (s5 z hz).2⟩) (fun z hz => (g3 z hz).1) hL (fun I' f1 p1 => ⟨_, rfl, ?_⟩)
      have f2 : xf_fr r I0 I' := fun x j h1 h2 => (f1 x j (by omega)).trans (hf x j h1 h2)
      have L2 : ∀ l : Nat, l < 26 → I' (r + 14) l = tyf (l : Int) := fun l hl => (f1 _ _ (by omega)).trans (hL l hl)
      have ec : csf tyf (fx (J (r + 7)) m) pl nu nm C q (a :: as) = oe (arf tyf pl nu (q + 1) a) (csf tyf (fx (J (r + 7)) m) pl nu nm (C + 1) (q + (a + 2)) as) := by
        show (if fx (J (r + 7)) m (nm q) ≠ (C : Int) then some (pl q) else _) = _
        rw [if_neg (by rw [h]; simp)]
      rcases hA : arf tyf pl nu (q + 1) a with _ | k
      · rw [hA] at ec
        refine s_Types_findFault_89 ⟨fun _ => am_ar_i (by omega) (by omega) (am_WP.forget (ls := [.inr (.inl (r + 1)), .inl (T : Int), .inl (E : Int), .inl ((C + 1 : Nat) : Int), am_o]) (ih (C + 1) (q + (a + 2)) I' f2 L2 s6 g4 (by omega) (fun I2 f3 L3 e1 e2 e3 => ?_) (fun I2 k f3 e1 e2 => bad I2 k f3 (ec.trans e1) e2)) _ (am_le_eq (am_le_eq (am_le_eq (am_le_eq (am_le_o am_le_nil))))) ), fun h => absurd rfl h⟩
        refine ok I2 f3 L3 (ec.trans e1) ⟨fun z hz => ⟨(e3 _ (by omega)).trans (p1 hA z hz).1, (p1 hA z hz).2⟩, e2⟩ (fun j hj => (e3 j (by omega)).trans (f1 _ _ (by omega)))
      · rw [hA] at ec
        have k0 := arf_nn _ _ (fun z hz => (g3 z hz).2) hA
        exact s_Types_findFault_89 ⟨fun h => absurd h (by show ¬ (k = -1); omega), fun _ => bad I' k f2 ec k0⟩
    · rintro _ rfl _ _
      refine s_Types_findFault_89 ⟨fun h => absurd h (by omega), fun _ => bad I (pl q) hf ?_ g2⟩
      show (if fx (J (r + 7)) m (nm q) ≠ (C : Int) then some (pl q) else _) = _
      rw [if_pos h]
theorem x_typesF {N : Nat} (hB : am_B K R) (hr : r = 41 ∨ r = 71) (hm : I0 (r + 1) 1 = (m : Int)) (hm2 : m ≤ 36) (hN : I0 (r + 1) 0 = (N : Int)) (hN2 : N ≤ 6) : ∀ (ts : List ty) (T C p : Nat) (I : Nat → Nat → Int), xf_fr r I0 I → (∀ l : Nat, l < 26 → I (r + 14) l = tyf (l : Int)) → xs_types I0 J r pl nu nm T C p ts → ts_rg pl nu p ts → T + ts.length = N → C + ts_cn ts = m →
    (∀ I' : Nat → Nat → Int, xf_fr r I0 I' → (∀ l : Nat, l < 26 → I' (r + 14) l = tyf (l : Int)) → tsf tyf (fx (J (r + 7)) m) pl nu nm T C p ts = none → ta_ok tyf I' r nu C p ts → (∀ j : Nat, j < 3 * C → I' (r + 8) j = I (r + 8) j) → Q (some (.inl (-1))) (n, K, I', J, R)) →
    (∀ (I' : Nat → Nat → Int) (k : Int), xf_fr r I0 I' → tsf tyf (fx (J (r + 7)) m) pl nu nm T C p ts = some k → 0 ≤ k → Q (some (.inl k)) (n, K, I', J, R)) → am_WP (d + 2) (169, 6, [.inr (.inl (r + 1)), .inl (T : Int), am_o, am_o, am_o], [], (0, 0), n, K, I, J, R) Q := by
  have k0 : K (r + 1) = .inl 10 := am_kq (i := 1) hB hr (by decide) rfl
  intro ts
  induction ts with
  | nil =>
    intro T C p I hf hL hs hg hT hC ok bad
    have hT : T + 0 = N := hT
    refine s_Types_findFault_6 ⟨k0, am_nm_k ((hf _ _ (by omega) (by omega)).trans hN) ?_⟩
    rintro _ rfl _ _
    exact ⟨fun _ => ok I hf hL rfl trivial (fun _ _ => rfl), fun h => absurd h (by omega)⟩
  | cons t ts ih =>
    intro T C p I hf hL hs hg hT hC ok bad
    have hT : T + (ts.length + 1) = N := hT
    have hC : C + (t.2.length + ts_cn ts) = m := hC
    obtain ⟨s1, s2, s3, s4, s5, s6, s7⟩ := hs
    obtain ⟨g1, g2, g3, g4⟩ := hg
    refine s_Types_findFault_6 ⟨k0, am_nm_k ((hf _ _ (by omega) (by omega)).trans hN) ?_⟩
    rintro _ rfl _ _
    refine ⟨fun h => absurd h (by omega), fun _ => ⟨k0, r + 9, am_rq (i := 1) hB hr rfl rfl, _, am_kq hB hr (by decide) rfl, ⟨by omega, by omega⟩, am_nm_k ((hf _ _ (by omega) (by omega)).trans s1) ?_⟩⟩
    rintro _ rfl _ _
    refine ⟨k0, x_typeOf (f := tyf) hB hr g1 hL ⟨_, rfl, s_Types_findFault_24 ⟨fun h => ⟨k0, r + 3, am_rq (i := 1) hB hr rfl rfl, _, am_kq hB hr (by decide) rfl, ⟨by omega, by omega⟩, am_nm_k ((hf _ _ (by omega) (by omega)).trans s4) ?_⟩, fun h => ⟨k0, r + 10, am_rq (i := 1) hB hr rfl rfl, _, am_kq hB hr (by decide) rfl, ⟨by omega, by omega⟩, am_nm_k ((hf _ _ (by omega) (by omega)).trans s2) ?_⟩⟩⟩⟩
    · rintro _ rfl _ _
      refine ⟨k0, r + 4, am_rq (i := 1) hB hr rfl rfl, _, am_kq hB hr (by decide) rfl, ⟨by omega, by omega⟩, am_nm_k ((hf _ _ (by omega) (by omega)).trans s5) ?_⟩
      rintro _ rfl _ _
      refine am_ar_i (by omega) (by omega) ⟨k0, r + 3, am_rq (i := 1) hB hr rfl rfl, _, am_kq hB hr (by decide) rfl, ⟨by omega, by omega⟩, am_nm_k ((hf _ _ (by omega) (by omega)).trans s4) ?_⟩
      rintro _ rfl _ _
      have et : tsf tyf (fx (J (r + 7)) m) pl nu nm T C p (t :: ts) = oe (csf tyf (fx (J (r + 7)) m) pl nu nm C (p + 3) t.2) (tsf tyf (fx (J (r + 7)) m) pl nu nm (T + 1) (C + t.2.length) (p + ty_sz t) ts) := by
        show (if tyf (nu (p + 1)) ≠ (T : Int) then some (pl (p + 1)) else _) = _
        rw [if_neg (by rw [h]; simp)]
      have g := x_consF (d := d) (n := n) (Q := Q) (T := T) (E := C + t.2.length) (tyf := tyf) (J := J) (pl := pl) (nu := nu) (nm := nm) hB hr hm hm2 (by omega) (by omega) t.2 C (p + 3) I hf hL s6 g3 rfl (fun I1 f1 L1 e1 e2 e3 => ?_) (fun I1 k f1 e1 e2 => bad I1 k f1 (by rw [et, e1]; rfl) e2)
      · exact g
      · rw [e1] at et
        refine ih (T + 1) (C + t.2.length) (p + ty_sz t) I1 f1 L1 s7 g4 (by omega) (by omega) (fun I2 f2 L2 e4 e5 e6 => ok I2 f2 L2 (et.trans e4) ⟨?_, e5⟩ (fun j hj => (e6 j (by omega)).trans (e3 j hj))) (fun I2 k f2 e4 e5 => bad I2 k f2 (et.trans e4) e5)
        have cg : ∀ (as : List Nat) (C' q : Nat), C' + as.length = C + t.2.length → ca_ok tyf I1 r nu C' q as → cs_rg pl nu q as → ca_ok tyf I2 r nu C' q as := by
          intro as
          induction as with
          | nil => intro C' q _ _ _; exact trivial
          | cons a as ih2 =>
            intro C' q hl hca hcg
            have hl : C' + (as.length + 1) = C + t.2.length := hl
            have := hcg.1
            exact ⟨fun z hz => ⟨(e6 _ (by omega)).trans (hca.1 z hz).1, (hca.1 z hz).2⟩, ih2 (C' + 1) (q + (a + 2)) (by omega) hca.2 hcg.2.2.2⟩
        exact cg t.2 C (p + 3) rfl e2 g3
    · rintro _ rfl _ _
      refine bad I (pl (p + 1)) hf ?_ g2
      show (if tyf (nu (p + 1)) ≠ (T : Int) then some (pl (p + 1)) else _) = _
      rw [if_pos h]
theorem x_typesFault {I : Nat → Nat → Int} {ts : List ty} (hB : am_B K R) (hr : r = 41 ∨ r = 71) (hm : I (r + 1) 1 = (ts_cn ts : Int)) (hm2 : ts_cn ts ≤ 36) (hN : I (r + 1) 0 = (ts.length : Int)) (hN2 : ts.length ≤ 6) (hs : xs_types I J r pl nu nm 0 0 0 ts) (hg : ts_rg pl nu 0 ts)
    (ok : ∀ I' : Nat → Nat → Int, xf_fr r I I' → (∀ l : Nat, l < 26 → I' (r + 14) l = lx (I (r + 9)) ts.length (l : Int)) → tsf (lx (I (r + 9)) ts.length) (fx (J (r + 7)) (ts_cn ts)) pl nu nm 0 0 0 ts = none → ta_ok (lx (I (r + 9)) ts.length) I' r nu 0 0 ts → Q (some (.inl (-1))) (n, K, I', J, R))
    (bad : ∀ (I' : Nat → Nat → Int) (k : Int), xf_fr r I I' → tsf (lx (I (r + 9)) ts.length) (fx (J (r + 7)) (ts_cn ts)) pl nu nm 0 0 0 ts = some k → 0 ≤ k → Q (some (.inl k)) (n, K, I', J, R)) : am_WP (d + 2) (am_entry 169 [.inr (.inl (r + 1))] (n, K, I, J, R)) Q := by
  have k0 : K (r + 1) = .inl 10 := am_kq (i := 1) hB hr (by decide) rfl
  have hl : ∀ (ts : List ty) (T C p : Nat), xs_types I J r pl nu nm T C p ts → ts_rg pl nu p ts → ∀ T' : Nat, T ≤ T' → T' < T + ts.length → 0 ≤ I (r + 9) T' ∧ I (r + 9) T' ≤ 25 := by
    intro ts
    induction ts with
    | nil => intro T C p _ _ T' h1 h2; exact absurd h2 (by show ¬ (T' < T + 0); omega)
    | cons t ts ih =>
      intro T C p h1 h2 T' h3 h4
      have h4 : T' < T + (ts.length + 1) := h4
      by_cases e : T' = T
      · rw [e, h1.1]; exact h2.1
      · exact ih (T + 1) _ _ h1.2.2.2.2.2.2 h2.2.2.2 T' (by omega) (by omega)
  refine e_Types_findFault ⟨k0, x_nameTypes hB hr hN hN2 (fun T hT => hl ts 0 0 0 hs hg T (by omega) (by omega)) (fun I1 f1 L1 => ⟨rfl, s_Types_findFault_4 ?_⟩)⟩
  exact x_typesF (tyf := lx (I (r + 9)) ts.length) hB hr hm hm2 hN hN2 ts 0 0 0 I1 (fun x j h1 h2 => f1 x j h2) L1 hs hg (by omega) (by omega) (fun I2 f2 L2 e1 e2 _ => ok I2 f2 L2 e1 e2) bad
end XT
