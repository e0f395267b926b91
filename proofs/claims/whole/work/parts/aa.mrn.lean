/-! RUN: the reference's rows, one after the other -/
section MRN
variable {d n0 : Nat} {C : Nat → am_K} {F G I J : Nat → Nat → Int} {R : Nat → Nat → Option Nat} {Q : am_Q} {r s N m wd : Nat} {ws : List rw0} {nmL : Nat → List Int}
def mr_fr (I I' : Nat → Nat → Int) : Prop := ∀ a j : Nat, ¬ (a = 101 ∧ j = 40) → a ≠ 127 → I' a j = I a j
theorem m_runRows {x : Int} {res : Int} {L0 : List Nat} (hB : am_B C R) (h : Sx F G r s ws N m wd nmL) (hM : Md F G r s ws N m wd nmL I J) (h14 : I 101 14 = (s : Int)) (h40 : I 101 40 = 0) (hres : rnf (I 125) (acR (fx (G (r + 7)) m) (nwc F r) ws) (rsg ws) (btf x) ws.length 0 [] = (res, L0)) (post : ∀ I' : Nat → Nat → Int, mr_fr I I' → I' 101 40 = (L0.length : Int) → lk (I' 127) 0 L0 → Q (some (.inl res)) (n0, C, I', J, R)) : am_WP (d + 2) (56, 96, [.inr (.inl 101), .inl x, .inl 0, am_o, am_o], [], (0, 0), n0, C, I, J, R) Q := by
  obtain ⟨hr, hE, hTy, w1, l0, l12, h60, hok, hrs, -⟩ := h
  have s2 := hE.1
  have loop : ∀ (vs : List rw0) (ρ : Nat) (I1 : Nat → Nat → Int) (L : List Nat) (y5 y6 : am_V), ρ + vs.length = ws.length → ws.drop ρ = vs → mr_fr I I1 → I1 101 40 = (L.length : Int) → lk (I1 127) 0 L → L.length + rs_sz vs ≤ 60 → rnf (I 125) (acR (fx (G (r + 7)) m) (nwc F r) ws) (rsg ws) (btf x) vs.length ρ L = (res, L0) → am_WP (d + 2) (56, 96, [.inr (.inl 101), .inl x, .inl (ρ : Int), y5, y6], [], (0, 0), n0, C, I1, J, R) Q := by
    intro vs
    induction vs with
    | nil =>
      intro ρ I1 L y5 y6 hl hd hfr h4 hlk hll he
      have hl : ρ = ws.length := hl
      have he : ((-5 : Int), L) = (res, L0) := he
      have e1 : (-5 : Int) = res := congrArg Prod.fst he
      have e2 : L = L0 := congrArg Prod.snd he
      subst e2
      refine am_WP.forget ?_ _ (am_le_eq (am_le_eq (am_le_eq (am_le_o (am_le_o am_le_nil)))))
      refine s_M_run_96 ⟨(am_kk hB rfl), 116, (am_rf hB rfl), (am_kk hB rfl), am_nm_k ((hfr _ _ (by decide) (by decide)).trans h14) ?_⟩
      rintro _ rfl _ _
      refine ⟨_, (am_kk hB rfl), ⟨by omega, by omega⟩, am_nm_k ((hfr _ _ (by omega) (by omega)).trans hM.2.2.1) ?_⟩
      rintro _ rfl _ _
      refine ⟨fun _ => ?_, fun h => absurd h (by omega)⟩
      rw [e1]
      exact post I1 hfr h4 hlk
    | cons w vs ih =>
      intro ρ I1 L y5 y6 hl hd hfr h4 hlk hll he
      have hl : ρ + (vs.length + 1) = ws.length := hl
      have ew : ws[ρ]? = some w := by
        have := List.getElem?_drop (xs := ws) (i := ρ) (j := 0)
        rw [hd] at this
        simpa using this.symm
      have hd2 : ws.drop (ρ + 1) = vs := by
        rw [← List.drop_drop, hd]; rfl
      have ez : rs_sz (w :: vs) = rw_sz w + rs_sz vs := rfl
      obtain ⟨m1, m2⟩ := mr_rows_at ws 0 hM.2.1 ρ (by omega)
      rw [Nat.zero_add] at m1 m2
      obtain ⟨b1, b2⟩ := acR_rg (g := G (r + 7)) hE hok hrs ρ
      have hal : (acR (fx (G (r + 7)) m) (nwc F r) ws ρ).length ≤ rw_sz w := by
        rw [acR_some ew]; exact ls_al_len _ _
      have he : (if (tra (I 125) (acR (fx (G (r + 7)) m) (nwc F r) ws ρ) L).1 = -2 then (-6, (tra (I 125) (acR (fx (G (r + 7)) m) (nwc F r) ws ρ) L).2) else if (tra (I 125) (acR (fx (G (r + 7)) m) (nwc F r) ws ρ) L).1 = 1 ∧ (rsg ws ρ = false ∨ btf x ρ = true) then ((ρ : Int), (tra (I 125) (acR (fx (G (r + 7)) m) (nwc F r) ws ρ) L).2) else rnf (I 125) (acR (fx (G (r + 7)) m) (nwc F r) ws) (rsg ws) (btf x) vs.length (ρ + 1) (tra (I 125) (acR (fx (G (r + 7)) m) (nwc F r) ws ρ) L).2) = (res, L0) := he
      have htl := tra_len (V := I 125) (acR (fx (G (r + 7)) m) (nwc F r) ws ρ) L
      have e125 : I1 125 = I 125 := funext fun j => hfr 125 j (by omega) (by decide)
      refine am_WP.forget ?_ _ (am_le_eq (am_le_eq (am_le_eq (am_le_o (am_le_o am_le_nil)))))
      refine s_M_run_96 ⟨(am_kk hB rfl), 116, (am_rf hB rfl), (am_kk hB rfl), am_nm_k ((hfr _ _ (by decide) (by decide)).trans h14) ?_⟩
      rintro _ rfl _ _
      refine ⟨_, (am_kk hB rfl), ⟨by omega, by omega⟩, am_nm_k ((hfr _ _ (by omega) (by omega)).trans hM.2.2.1) ?_⟩
      rintro _ rfl _ _
      refine ⟨fun h => absurd h (by omega), fun _ => ⟨(am_kk hB rfl), am_nm_k ((hfr _ _ (by decide) (by decide)).trans h14) ?_⟩⟩
      rintro _ rfl _ _
      refine am_ar_i (by omega) (by omega) (am_ar_i (by omega) (by omega) ?_)
      rw [show (12 : Int) * (s : Int) + (ρ : Int) = ((12 * s + ρ : Nat) : Int) by omega]
      have ixr : (0 : Int) ≤ ((12 * s + ρ : Nat) : Int) ∧ ((12 * s + ρ : Nat) : Int) < ((24 : Nat) : Int) := ⟨by omega, by omega⟩
      have m1' : acS I1 (12 * s + ρ) (acR (fx (G (r + 7)) m) (nwc F r) ws ρ) := acS_fr m1 (fun a j a1 a2 => hfr a j (by omega) (by omega))
      refine ⟨(am_kk hB rfl), e_M_tryRow (m_tryRow hB (by omega) (by omega) _ 0 L I1 (Nat.zero_add _) m1'.1 m1'.2 b1 h4 hlk (by omega) (fun I2 f2 t4 tlk => ⟨_, rfl, ?_⟩))⟩
      rw [e125] at t4 tlk ⊢
      have fr2 : mr_fr I I2 := fun a j g1 g2 => (f2 a j g1 g2).trans (hfr a j g1 g2)
      have tr := tra_res (V := I 125) (acR (fx (G (r + 7)) m) (nwc F r) ws ρ) L
      generalize tra (I 125) (acR (fx (G (r + 7)) m) (nwc F r) ws ρ) L = T at he htl t4 tlk tr ⊢
      have nxt : ¬ T.1 = -2 → ¬ (T.1 = 1 ∧ (rsg ws ρ = false ∨ btf x ρ = true)) → ∀ y5 y6 : am_V, am_WP (d + 2) (56, 96, [.inr (.inl 101), .inl x, .inl ((ρ : Int) + 1), y5, y6], [], (0, 0), n0, C, I2, J, R) Q := by
        intro n1 n2 y5 y6
        rw [if_neg n1, if_neg n2] at he
        exact ih (ρ + 1) I2 T.2 y5 y6 (by omega) hd2 fr2 t4 tlk (by omega) he
      have hit : T.1 = 1 → (rsg ws ρ = false ∨ btf x ρ = true) → Q (some (.inl (ρ : Int))) (n0, C, I2, J, R) := by
        intro n1 n2
        rw [if_neg (by omega), if_pos ⟨n1, n2⟩] at he
        have e1 : (ρ : Int) = res := congrArg Prod.fst he
        have e2 : T.2 = L0 := congrArg Prod.snd he
        rw [e1]
        rw [e2] at t4 tlk
        exact post I2 fr2 t4 tlk
      have g118 : I2 118 (12 * s + ρ) = xt_v (rsg ws ρ) := (fr2 _ _ (by omega) (by omega)).trans m2
      refine s_M_run_124 ⟨fun n2 => ⟨fun n1 => am_ar_i (by omega) (by omega) (nxt n2 (fun e => n1 e.1) _ _), fun e1 => ⟨(am_kk hB rfl), 118, (am_rf hB rfl), _, Or.inl ⟨by decide, (am_kk hB rfl)⟩, ixr, am_nm_k g118 (fun z hz _ _ => ⟨fun h0 => hit e1 (Or.inl ?_), fun h0 => ?_⟩)⟩⟩, fun e2 => ?_⟩
      · rw [hz] at h0
        cases hh : rsg ws ρ
        · rfl
        · rw [hh] at h0; exact absurd h0 (by decide)
      · have ng : ¬ rsg ws ρ = false := fun e => by rw [hz, e] at h0; exact h0 rfl
        refine fun z1 hz1 _ _ z2 hz2 _ _ => ⟨fun hn1 => am_ar_i (by omega) (by omega) (nxt n2 (fun e => ?_) _ _), fun hn1 => hit e1 (Or.inr ?_)⟩
        · rcases e.2 with e | e
          · exact ng e
          · unfold btf at e
            have e : am_and (am_shr x (ρ : Int)) 1 = 1 := by simpa using e
            rw [hz2, hz1] at hn1
            exact hn1 e
        · unfold btf
          rw [hz2, hz1] at hn1
          simpa using hn1
      · rw [if_pos e2] at he
        have e1 : (-6 : Int) = res := congrArg Prod.fst he
        have e3 : T.2 = L0 := congrArg Prod.snd he
        rw [e1]
        rw [e3] at t4 tlk
        exact post I2 fr2 t4 tlk
  exact loop ws 0 I [] _ _ (Nat.zero_add _) rfl (fun _ _ _ _ => rfl) h40 trivial (by show 0 + rs_sz ws ≤ 60; omega) hres
end MRN
