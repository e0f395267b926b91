/-! RUN: values, and the rows one after the other -/
theorem ls_sp_all {T : Type} {f : Nat → T → Nat → Prop} {P : T → Prop} (h : ∀ (i : Nat) (t : T) (j : Nat), f i t j → P t) : ∀ (ts : List T) (i j : Nat), ls_sp f i ts j → ∀ t ∈ ts, P t := by
  intro ts
  induction ts with
  | nil => intro i j _ t ht; exact absurd ht (by simp)
  | cons u ts ih =>
    intro i j hs t ht
    obtain ⟨m, h1, h2⟩ := hs
    rcases List.mem_cons.mp ht with e | e
    · rw [e]; exact h i u m h1
    · exact ih m j h2 t e
theorem ft_sp_vk {kd pl nu nm : Nat → Int} : ∀ (n i : Nat) (t : tm n) (j : Nat), ft_sp kd pl nu nm true n i t j → vk n t := by
  intro n
  induction n with
  | zero => intro i t; exact t.elim
  | succ n ih =>
    intro i t j h
    have nil : ∀ k ∈ ([] : List (tm n)), vk n k := fun k hk => absurd hk (by simp)
    rcases h with h | h | ⟨-, -, ks, m, -, h1, -, h2, -⟩ | h | ⟨h, -⟩ | ⟨h, -⟩ | ⟨h, -⟩ | ⟨h, -⟩ | ⟨h, -⟩
    · rw [h.2.1]; exact ⟨Or.inl rfl, nil⟩
    · rw [h.2.1]; exact ⟨Or.inr (Or.inl rfl), nil⟩
    · rw [h2]; exact ⟨Or.inr (Or.inr (Or.inl rfl)), ls_sp_all ih ks _ _ h1⟩
    · rw [h.2.2.1]; exact ⟨Or.inr (Or.inr (Or.inr rfl)), nil⟩
    · exact absurd h (by decide)
    · exact absurd h (by decide)
    · exact absurd h (by decide)
    · exact absurd h (by decide)
    · exact absurd h (by decide)
theorem ft_sp_pk {kd pl nu nm : Nat → Int} : ∀ (n i : Nat) (t : tm n) (j : Nat), ft_sp kd pl nu nm false n i t j → pkd n t := by
  intro n
  induction n with
  | zero => intro i t; exact t.elim
  | succ n ih =>
    intro i t j h
    have nil : ∀ k ∈ ([] : List (tm n)), pkd n k := fun k hk => absurd hk (by simp)
    have one : ∀ (u : tm n) (i' j' : Nat), ft_sp kd pl nu nm false n i' u j' → ∀ k ∈ [u], pkd n k := fun u i' j' hu k hk => by
      have : k = u := by simpa using hk
      rw [this]; exact ih i' u j' hu
    rcases h with h | h | ⟨-, -, ks, m, -, h1, -, h2, -⟩ | ⟨h, -⟩ | ⟨-, -, u, h1, h2⟩ | ⟨-, -, u, h1, h2⟩ | ⟨-, -, -, u, h1, h2⟩ | h | h
    · rw [h.2.1]; exact ⟨by show (4 : Int) ≠ 7; decide, nil⟩
    · rw [h.2.1]; exact ⟨by show (5 : Int) ≠ 7; decide, nil⟩
    · rw [h2]; exact ⟨by show (6 : Int) ≠ 7; decide, ls_sp_all ih ks _ _ h1⟩
    · exact absurd h (by decide)
    · rw [h2]; exact ⟨by show (1 : Int) ≠ 7; decide, one u _ _ h1⟩
    · rw [h2]; exact ⟨by show (2 : Int) ≠ 7; decide, one u _ _ h1⟩
    · rw [h2]; exact ⟨by show (3 : Int) ≠ 7; decide, one u _ _ h1⟩
    · rw [h.2.2.2.1]; exact ⟨by show (0 : Int) ≠ 7; decide, nil⟩
    · rw [h.2.2.1]; exact ⟨by show (0 : Int) ≠ 7; decide, nil⟩
section MVA
variable {d n0 : Nat} {C : Nat → am_K} {J : Nat → Nat → Int} {R : Nat → Nat → Option Nat} {Q : am_Q} {kd pl nu nm : Nat → Int} {c s N m wd : Nat} {F G : Nat → Nat → Int} {aT W : Nat → Int} {r : Nat} {I : Nat → Nat → Int}
theorem m_values {j : Nat} {e : Int} {ts : List (tm 6)} (hB : am_B C R) (hE : rE F aT W r s N m wd) (hT : mt_T I J kd pl nu nm c) (h8 : I 101 8 = 0) (ht : mtab F G r s N m wd I J) (hsp : ls_sp (ft_sp kd pl nu nm true 6) 0 ts j) (hj : kd j = 0) (hok : ∀ t ∈ ts, tm_ok 6 t) (ok : ls_f (tf (fx (G (r + 7)) m) (F (r + 5)) (F (r + 6)) aT 6) (tm_at 6) e W wd ts = none → ∀ I' : Nat → Nat → Int, vf_fr 0 I I' → I' 101 8 = 0 → ls_v (vS (fx (G (r + 7)) m) (nwc F r) (I' 125) 6) 1 ts → Q none (n0, C, I', J, R)) (bad : ls_f (tf (fx (G (r + 7)) m) (F (r + 5)) (F (r + 6)) aT 6) (tm_at 6) e W wd ts ≠ none → ∀ I' : Nat → Nat → Int, vf_fr 0 I I' → I' 101 8 = 1 → Q none (n0, C, I', J, R)) : am_WP (d + 5) (am_entry 54 [.inr (.inl 101), .inl (s : Int)] (n0, C, I, J, R)) Q := by
  have hs := hE.1
  have wd4 := hE.2.2.2.1
  have ixs : (0 : Int) ≤ (s : Int) ∧ (s : Int) < ((2 : Nat) : Int) := ⟨by omega, by omega⟩
  have f0 : vf_fr 0 I (am_u (am_u I 101 7 0) 101 33 0) := vf_ut (vf_ut vf_refl (by unfold vf_ch; omega)) (by unfold vf_ch; omega)
  have i7 : am_u (am_u I 101 7 0) 101 33 0 101 7 = ((0 : Nat) : Int) := (am_u_kn (by decide)).trans am_u_kk
  have i33 : am_u (am_u I 101 7 0) 101 33 0 101 33 = ((0 : Nat) : Int) := am_u_kk
  have i8 : am_u (am_u I 101 7 0) 101 33 0 101 8 = 0 := (am_u_kn (by decide)).trans ((am_u_kn (by decide)).trans h8)
  refine e_M_meaningOfValues ⟨⟨by decide, (am_kk hB rfl)⟩, ⟨by decide, (am_kk hB rfl)⟩, ?_⟩
  generalize am_u (am_u I 101 7 0) 101 33 0 = I0 at f0 i7 i33 i8 ⊢
  have ht0 := vf_tab ht f0
  have fg := ls_fg (f := tf (fx (G (r + 7)) m) (F (r + 5)) (F (r + 6)) aT 6) (at' := tm_at 6) (e := e) ts wd W
  refine mvl_all (d := d) (Q := Q) hB hE 6 ts 0 j 0 0 0 wd 1 W I0 (vf_T hT f0) i7 (Nat.zero_le _) i8 ht0 ⟨i33, Or.inl ⟨rfl, rfl, rfl, rfl, rfl⟩⟩ (Nat.zero_le _) wd4 (by decide) (by decide) (Or.inr ⟨0, rfl⟩) hsp hok (fun hg I1 col f1 _ q7 qc q8 qS c4 _ hv => ?_) (fun k hg I1 col hb => ?_)
  · have hg : ls_g (tf (fx (G (r + 7)) m) (F (r + 5)) (F (r + 6)) aT 6) (tm_at 6) W wd ts = none := by
      have e1 : (fun z => W (0 + z)) = W := funext fun z => by rw [Nat.zero_add]
      rw [e1] at hg
      exact hg
    rw [hg] at fg
    have fg : ls_f (tf (fx (G (r + 7)) m) (F (r + 5)) (F (r + 6)) aT 6) (tm_at 6) e W wd ts = (if ts.length < wd then some e else none) := fg
    have f2 := vf_trans f0 f1 (Nat.le_refl _)
    have ecol : col = ts.length := by
      rcases qS.2 with h | ⟨f', _, _, h, _⟩
      · omega
      · omega
    have hT1 := vf_T hT f2
    refine s_M_meaningOfValues_12 ⟨(am_kk hB rfl), am_nm_k q8 ?_⟩
    rintro _ rfl _ _
    refine ⟨fun h => absurd rfl h, fun _ => ⟨(am_kk hB rfl), _, (am_rf hB rfl), (am_kk hB rfl), m_srt hB hT1 q7 qc (fun z _ e0 => ⟨fun _ => s_M_meaningOfValues_404 ⟨(am_kk hB rfl), 114, (am_rf hB rfl), _, (am_kk hB rfl), ixs, am_nm_k (vf_tab ht f2).2.2.1 ?_⟩, fun h => absurd (e0.mpr hj) h⟩)⟩⟩
    rintro _ rfl _ _
    refine ⟨fun hle => s_M_meaningOfValues_418 (ok ?_ I1 f2 q8 hv), fun hlt => ⟨(am_kk hB rfl), m_mispl hB hT1 q7 qc q8 ⟨rfl, s_M_meaningOfValues_418 (bad ?_ _ (vf_ut (vf_ut f2 (by unfold vf_ch; omega)) (by unfold vf_ch; omega)) ((am_u_kn (by decide)).trans am_u_kk))⟩⟩⟩
    · rw [fg, if_neg (by omega)]
    · rw [fg, if_pos (by omega)]; simp
  · have hg : ls_g (tf (fx (G (r + 7)) m) (F (r + 5)) (F (r + 6)) aT 6) (tm_at 6) W wd ts = some k := by
      have e1 : (fun z => W (0 + z)) = W := funext fun z => by rw [Nat.zero_add]
      rw [e1] at hg
      exact hg
    rw [hg] at fg
    have f2 := vf_trans f0 hb.1 (Nat.le_refl _)
    refine vd_12 hB hs hb.2 (vf_tab ht f2).2.2.1 (bad ?_ I1 f2 hb.2)
    rw [fg]
    show some k ≠ none
    simp
end MVA
/-- the rows, one after the other -/
def rnf (V : Nat → Int) (A : Nat → List (Nat × Int)) (g b : Nat → Bool) : Nat → Nat → List Nat → Int × List Nat
  | 0, _, L => (-5, L)
  | k + 1, ρ, L => if (tra V (A ρ) L).1 = -2 then (-6, (tra V (A ρ) L).2) else if (tra V (A ρ) L).1 = 1 ∧ (g ρ = false ∨ b ρ = true) then ((ρ : Int), (tra V (A ρ) L).2) else rnf V A g b k (ρ + 1) (tra V (A ρ) L).2
def btf (x : Int) (ρ : Nat) : Bool := decide (am_and (am_shr x (ρ : Int)) 1 = 1)
theorem bnd_and {x y : Int} : -2147483648 ≤ am_and x y ∧ am_and x y ≤ 2147483647 := by
  unfold am_and
  exact ⟨Int32.le_toInt _, by have := Int32.toInt_lt (Int32.ofInt x &&& Int32.ofInt y); omega⟩
section RUN
variable {d n0 : Nat} {C : Nat → am_K} {F I J : Nat → Nat → Int} {R : Nat → Nat → Option Nat} {Q : am_Q} {r s N m wd : Nat} {ws : List rw0} {nmL : Nat → List Int}
theorem x_tryRows {x : Int} {us : List (tm 6)} (hB : am_B C R) (h : Sx F J r s ws N m wd nmL) (hp : ∀ w ∈ ws, ∀ t ∈ w.1, pkd 6 t) (h19 : F 19 1 = 0) (hH : ls_H (ft_H F J 19 6) (tm_sz 6) (F 28) 0 us) (hG : ls_A (ft_G F 19 (fx (J (r + 7)) m) 6) (tm_sz 6) 0 us) (ho : ∀ t ∈ us, tm_ok 6 t) (hv : ∀ t ∈ us, vk 6 t) (hsz : ls_sz (tm_sz 6) us ≤ 60) (hf : ∃ e : Int, ls_f (tf (fx (J (r + 7)) m) (F (r + 5)) (F (r + 6)) (F (r + 8)) 6) (tm_at 6) e (F (r + 26)) wd us = none) (hne : us ≠ []) (hL : lkS F []) (post : ∀ (I' : Nat → Nat → Int) (res : Int) (L : List Nat), tr_fr F I' → lkS I' L → L.length ≤ 60 → (∀ V : Nat → Int, ls_v (vS (fx (J (r + 7)) m) (nwc F r) V 6) 1 us → rnf V (acR (fx (J (r + 7)) m) (nwc F r) ws) (rsg ws) (btf x) ws.length 0 [] = (res, L)) → Q (some (.inl res)) (n0, C, I', J, R)) : am_WP (d + 25) (am_entry 157 [.inr (.inl 29), .inr (.inl r), .inr (.inl 19), .inl x] (n0, C, F, J, R)) Q := by
  obtain ⟨hr, hE, hTy, w1, l0, l12, h60, hok, hrs, hn, hn8, g2, g3, ⟨p, g4, gb⟩, g5, g6⟩ := h
  obtain ⟨e0, hf⟩ := hf
  have k0 : C r = .inl 5 := am_kq (i := 0) hB hr (by decide) rfl
  have wd4 := hE.2.2.2.1
  have hemp : us.isEmpty = false := by
    cases us with
    | nil => exact absurd rfl hne
    | cons _ _ => rfl
  have loop : ∀ (vs : List rw0) (ρ i : Nat) (I : Nat → Nat → Int) (L : List Nat) (y5 y6 : am_V), ρ + vs.length = ws.length → ws.drop ρ = vs → xw_rows F J r ρ i vs → rs_G F (r + 15) (fx (J (r + 7)) m) i vs → i + rs_sz vs ≤ 60 → tr_fr F I → lkS I L → L.length + rs_sz vs ≤ 60 → (∀ (I' : Nat → Nat → Int) (res : Int) (L' : List Nat), tr_fr F I' → lkS I' L' → L'.length ≤ 60 → (∀ V : Nat → Int, ls_v (vS (fx (J (r + 7)) m) (nwc F r) V 6) 1 us → rnf V (acR (fx (J (r + 7)) m) (nwc F r) ws) (rsg ws) (btf x) vs.length ρ L = (res, L')) → Q (some (.inl res)) (n0, C, I', J, R)) → am_WP (d + 25) (157, 3, [.inr (.inl 29), .inr (.inl r), .inr (.inl 19), .inl x, .inl (ρ : Int), y5, y6], [], (0, 0), n0, C, I, J, R) Q := by
    intro vs
    induction vs with
    | nil =>
      intro ρ i I L y5 y6 hl hd hx hg hi hfr hlk hll pst
      have hl : ρ = ws.length := hl
      refine am_WP.forget ?_ _ (am_le_eq (am_le_eq (am_le_eq (am_le_eq (am_le_eq (am_le_o (am_le_o am_le_nil)))))))
      refine s_Trial_tryRows_3 ⟨k0, am_nm_k ((hfr _ _ (by omega) (by omega)).trans g3) ?_⟩
      rintro _ rfl _ _
      have hll : L.length + 0 ≤ 60 := hll
      exact ⟨fun _ => pst I (-5) L hfr hlk (by omega) (fun V _ => rfl), fun h => absurd h (by omega)⟩
    | cons w vs ih =>
      intro ρ i I L y5 y6 hl hd hx hg hi hfr hlk hll pst
      have hl : ρ + (vs.length + 1) = ws.length := hl
      obtain ⟨x1, x2, x3, x4⟩ := hx
      obtain ⟨q1, q2⟩ := hg
      have ew : ws[ρ]? = some w := by
        have := List.getElem?_drop (xs := ws) (i := ρ) (j := 0)
        rw [hd] at this
        simpa using this.symm
      have hwm : w ∈ ws := List.mem_of_getElem? ew
      have hd2 : ws.drop (ρ + 1) = vs := by
        rw [← List.drop_drop, hd]; rfl
      have ez : rs_sz (w :: vs) = rw_sz w + rs_sz vs := rfl
      have ea : acR (fx (J (r + 7)) m) (nwc F r) ws ρ = ls_al (al (fx (J (r + 7)) m) (nwc F r) 6) (1 + 0) w.1 := acR_some ew
      have hal : (ls_al (al (fx (J (r + 7)) m) (nwc F r) 6) (1 + 0) w.1).length ≤ rw_sz w := ls_al_len _ _
      obtain ⟨pr1, pr2, pr3⟩ := prl_of w.1 us wd (F (r + 26)) (rsf_at ws ρ w hrs ew) hf
      have hwne : w.1.isEmpty = false := by
        cases hw1 : w.1 with
        | nil => exact absurd hw1 (hok w hwm).1
        | cons _ _ => rfl
      have egr := rsg_at ew
      have hsz2 : i + ls_sz (tm_sz 6) w.1 ≤ 60 := by
        have e9 : rw_sz w = ls_sz (tm_sz 6) w.1 := rfl
        omega
      have epl := xw_bits_at ws 0 gb ρ (by omega)
      rw [Nat.zero_add] at epl
      refine am_WP.forget ?_ _ (am_le_eq (am_le_eq (am_le_eq (am_le_eq (am_le_eq (am_le_o (am_le_o am_le_nil)))))))
      refine s_Trial_tryRows_3 ⟨k0, am_nm_k ((hfr _ _ (by omega) (by omega)).trans g3) ?_⟩
      rintro _ rfl _ _
      refine ⟨fun h => absurd h (by omega), fun _ => ⟨k0, r + 25, am_rq (i := 0) hB hr rfl rfl, _, am_kq (i := 25) hB hr (by decide) rfl, ⟨by omega, by omega⟩, am_nm_k ((hfr (r + 25) ρ (by omega) (by omega)).trans x1) ?_⟩⟩
      rintro _ rfl _ _
      refine ⟨(am_kk hB rfl), am_nm_k ((hfr _ _ (by omega) (by omega)).trans h19) ?_⟩
      rintro _ rfl _ _
      refine ⟨(am_kk hB rfl), e_Trial_tryList ?_⟩
      have go := xp_list (n0 := n0) 6 hB hr (xp_all hB hr hE hTy 6) w.1 6 i 0 1 0 (d + 24) us (F (r + 26)) L I (fun v6 s7 => ∃ z8 : Int, v6 = some (.inl z8) ∧ am_WP (d + 25) (157, 30, [.inr (.inl 29), .inr (.inl r), .inr (.inl 19), .inl x, .inl (ρ : Int), am_o, am_o], [.inl z8], (0, 0), s7) Q) (i : Int) 0 (Nat.le_refl _) (by omega) hfr x3 q1 (hok w hwm).2.2 (hp w hwm) hsz2 hH hG ho hv (by omega) pr1 (by omega) hlk (by omega) (by decide)
      rw [hwne, hemp] at go
      refine go (fun I1 res L1 hA => ⟨_, rfl, ?_⟩)
      obtain ⟨a1, a2, a3, a4, a5⟩ := hA
      have fr1 := tr_trans hfr a1
      have a5 : ∀ V : Nat → Int, ls_v (vS (fx (J (r + 7)) m) (nwc F r) V 6) 1 us → tra V (acR (fx (J (r + 7)) m) (nwc F r) ws ρ) L = (res, L1) := fun V hV => by
        rw [ea]; exact a5 V hV
      have nxt : ¬ (res = -2) → ¬ (res = 1 ∧ (rsg ws ρ = false ∨ btf x ρ = true)) → ∀ y5 y6 : am_V, am_WP (d + 25) (157, 3, [.inr (.inl 29), .inr (.inl r), .inr (.inl 19), .inl x, .inl ((ρ : Int) + 1), y5, y6], [], (0, 0), n0, C, I1, J, R) Q := by
        intro n1 n2 y5 y6
        refine ih (ρ + 1) (i + rw_sz w) I1 L1 y5 y6 (by omega) hd2 x4 q2 (by omega) fr1 a2 (by omega) (fun I' res' L' b1 b2 b3 b4 => pst I' res' L' b1 b2 b3 (fun V hV => ?_))
        show (if (tra V (acR (fx (J (r + 7)) m) (nwc F r) ws ρ) L).1 = -2 then _ else _) = _
        rw [a5 V hV, if_neg n1, if_neg n2]
        exact b4 V hV
      have hit : res = 1 → (rsg ws ρ = false ∨ btf x ρ = true) → Q (some (.inl (ρ : Int))) (n0, C, I1, J, R) := by
        intro n1 n2
        refine pst I1 (ρ : Int) L1 fr1 a2 (by omega) (fun V hV => ?_)
        show (if (tra V (acR (fx (J (r + 7)) m) (nwc F r) ws ρ) L).1 = -2 then _ else _) = _
        rw [a5 V hV, if_neg (by show ¬ res = -2; omega), if_pos ⟨n1, n2⟩]
      refine s_Trial_tryRows_30 ⟨fun hne6 => ⟨k0, e_Rules_isPlain ⟨k0, am_nm_k ((fr1 _ _ (by omega) (by omega)).trans g4) ?_⟩⟩, fun h6 => ?_⟩
      · rintro _ rfl _ _
        have n2 : ¬ res = -2 := fun e => hne6 (by rw [e]; rfl)
        have bb := am_bitm (p := p) l12 (show ρ < ws.length by omega)
        have bnd := bnd_and (x := am_shr ((mk p ws.length : Nat) : Int) (ρ : Int)) (y := 1)
        have s66 : ∀ (y0 : Int), (y0 = 0 → ¬ (rsg ws ρ = false ∨ btf x ρ = true)) → (y0 ≠ 0 → (rsg ws ρ = false ∨ btf x ρ = true)) → am_WP (d + 25) (157, 66, [.inr (.inl 29), .inr (.inl r), .inr (.inl 19), .inl x, .inl (ρ : Int), .inl (cdr res), am_o], [.inl y0], (0, 0), n0, C, I1, J, R) Q := by
          intro y0 h1 h2
          refine s_Trial_tryRows_66 ⟨fun hc => am_ar_i (by omega) (by omega) (nxt n2 (fun e => hc (by rw [e.1]; rfl)) _ _), fun hc => ⟨fun h0 => am_ar_i (by omega) (by omega) (nxt n2 (fun e => h1 h0 e.2) _ _), fun h0 => hit ?_ (h2 h0)⟩⟩
          rcases a4 with e | e | e
          · exact e
          · rw [e] at hc; exact absurd hc (by decide)
          · exact absurd e n2
        have s48 : ∀ (y0 : Int), (y0 = 0 ∨ y0 = 1) → (y0 = 1 ↔ rsg ws ρ = false) → ∃ z3 : Int, some (.inl y0) = some (.inl z3 : am_V) ∧ am_WP (d + 25) (157, 48, [.inr (.inl 29), .inr (.inl r), .inr (.inl 19), .inl x, .inl (ρ : Int), .inl (cdr res), am_o], [.inl z3], (0, 0), n0, C, I1, J, R) Q := by
          intro y0 h01 hiff
          refine ⟨y0, rfl, s_Trial_tryRows_48 ⟨fun h0 => s66 1 (fun h => absurd h (by decide)) (fun _ => Or.inl (hiff.mp (by omega))), fun h0 => ?_⟩⟩
          have ng : ¬ rsg ws ρ = false := fun e => by have := hiff.mpr e; omega
          refine fun z1 hz1 _ _ z2 hz2 _ _ => ⟨fun hn1 => s66 0 (fun _ => ?_) (fun h => absurd rfl h), fun hn1 => s66 1 (fun h => absurd h (by decide)) (fun _ => Or.inr ?_)⟩
          · rintro (e | e)
            · exact ng e
            · unfold btf at e
              have e : am_and (am_shr x (ρ : Int)) 1 = 1 := by simpa using e
              rw [hz2, hz1] at hn1
              exact hn1 e
          · unfold btf
            rw [hz2, hz1] at hn1
            simpa using hn1
        refine fun z1 hz1 _ _ z2 hz2 _ _ => ?_
        rw [hz1, bb] at hz2
        refine ⟨fun hn1 => s_Rules_isPlain_17 ⟨Or.inl rfl, s48 0 (Or.inl rfl) ⟨fun h => absurd h (by decide), fun hgf => ?_⟩⟩, fun hn1 => s_Rules_isPlain_17 ⟨Or.inr rfl, s48 1 (Or.inr rfl) ⟨fun _ => ?_, fun _ => rfl⟩⟩⟩
        · exfalso
          rw [hgf] at epl
          rw [epl] at hz2
          exact hn1 hz2
        · rw [hn1] at hz2
          cases hh : rsg ws ρ
          · rfl
          · rw [hh] at epl
            rw [epl] at hz2
            exact absurd hz2 (by decide)
      · have e2 : res = -2 := by
          rcases a4 with e | e | e
          · rw [e] at h6; exact absurd h6 (by decide)
          · rw [e] at h6; exact absurd h6 (by decide)
          · exact e
        refine pst I1 (-6) L1 fr1 a2 (by omega) (fun V hV => ?_)
        show (if (tra V (acR (fx (J (r + 7)) m) (nwc F r) ws ρ) L).1 = -2 then _ else _) = _
        rw [a5 V hV, if_pos e2]
  refine e_Trial_tryRows (loop ws 0 0 F [] _ _ (Nat.zero_add _) rfl g5 g6 (by omega) tr_refl hL (by show 0 + rs_sz ws ≤ 60; omega) post)
end RUN
