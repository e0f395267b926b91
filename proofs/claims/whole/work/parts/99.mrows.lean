/-! MEANING: the reference's rows, one after the other -/
section MRW
variable {d n0 : Nat} {K : Nat → am_K} {J : Nat → Nat → Int} {R : Nat → Nat → Option Nat} {kd pl nu nm : Nat → Int} {c s : Nat} {N m wd : Nat} {F G : Nat → Nat → Int} {aT W : Nat → Int} {r : Nat}
theorem mp_all {Q : am_Q} {ρ : Nat} (hB : am_B K R) (hE : rE F aT W r s N m wd) (hρ : ρ < 12) : ∀ n : Nat, mp_P d n0 K J R Q kd pl nu nm c s ρ N m wd F G aT W r n := by
  intro n
  induction n with
  | zero => intro t i j f cnt col many base p V l w lz0 lz A I _ _ _ _ _ _ _ _ _ _ _ _ _ _ _ _ _ h; exact h.elim
  | succ n ih => exact mp_step n hB hE hρ ih (ml_of n hB hE hρ ih)
/-- what one row's meaning changes -/
def rr_ch (s R0 a j : Nat) : Prop := (a = 101 ∧ (j = 7 ∨ j = 8 ∨ j = 9 ∨ (33 ≤ j ∧ j ≤ 37))) ∨ (122 ≤ a ∧ a ≤ 124) ∨ (a = 116 ∧ j = s) ∨ ((a = 118 ∨ a = 119) ∧ j = R0) ∨ ((a = 120 ∨ a = 121) ∧ 150 * R0 ≤ j ∧ j < 150 * R0 + 150)
def rr_fr (s R0 : Nat) (I I' : Nat → Nat → Int) : Prop := ∀ a j : Nat, ¬ rr_ch s R0 a j → I' a j = I a j
theorem rr_rf {R0 f : Nat} {I I1 I2 : Nat → Nat → Int} (h : rr_fr s R0 I I1) (h' : rf_fr R0 f I1 I2) : rr_fr s R0 I I2 := fun a j g => (h' a j (fun q => g (by unfold rf_ch at q; unfold rr_ch; omega))).trans (h a j g)
theorem rr_ut {R0 a k : Nat} {I I1 : Nat → Nat → Int} {v : Int} (h0 : rr_fr s R0 I I1) (h : rr_ch s R0 a k) : rr_fr s R0 I (am_u I1 a k v) := fun x j g => (am_u_off (by rintro ⟨rfl, rfl⟩; exact g h)).trans (h0 x j g)
theorem rr_mm {ρ : Nat} {I I' : Nat → Nat → Int} (h : rr_fr s (12 * s + ρ) I I') (hρ : ρ < 12) : mm_fr s I I' J J := by
  refine ⟨fun a j g => h a j (fun q => g ?_), fun _ _ _ => rfl⟩
  rcases q with q | q | q | q | q
  · exact Or.inl q
  · exact Or.inr (Or.inl q)
  · rw [q.1, q.2]; exact mm_tb ⟨by decide, by decide⟩ (by show 1 * s ≤ s; omega) (by show s < 1 * s + 1; omega)
  · rcases q.1 with e | e <;> rw [e, q.2] <;> exact mm_tb ⟨by decide, by decide⟩ (by show 12 * s ≤ _; omega) (by show _ < 12 * s + 12; omega)
  · rcases q.1 with e | e <;> rw [e] <;> exact mm_tb ⟨by decide, by decide⟩ (by show 1800 * s ≤ j; omega) (by show j < 1800 * s + 1800; omega)
theorem m_row {Q : am_Q} {ρ i j : Nat} {w : rw0} {I : Nat → Nat → Int} (hB : am_B K R) (hE : rE F aT W r s N m wd) (hρ : ρ < 12) (hT : mt_T I J kd pl nu nm c) (h7 : I 101 7 = (i : Int)) (hic : i ≤ c) (h8 : I 101 8 = 0) (ht : mtab F G r s N m wd I J) (h116 : I 116 s = (ρ : Int)) (hsp : rw_sp kd pl nu nm i w j) (h60 : rw_sz w ≤ 60)
    (ok : ls_f (tf (fx (G (r + 7)) m) (F (r + 5)) (F (r + 6)) aT 6) (tm_at 6) w.2.2 W wd w.1 = none → ∀ I' : Nat → Nat → Int, rr_fr s (12 * s + ρ) I I' → I' 101 7 = (j : Int) → j ≤ c → I' 101 8 = 0 → I' 116 s = ((ρ + 1 : Nat) : Int) → I' 118 (12 * s + ρ) = xt_v w.2.1 → acS I' (12 * s + ρ) (ls_al (al (fx (G (r + 7)) m) (nwc F r) 6) 1 w.1) → Q none (n0, K, I', J, R))
    (bad : ∀ k : Int, ls_f (tf (fx (G (r + 7)) m) (F (r + 5)) (F (r + 6)) aT 6) (tm_at 6) w.2.2 W wd w.1 = some k → ∀ I' : Nat → Nat → Int, mm_bad s k I I' J J → Q none (n0, K, I', J, R)) : am_WP (d + 5) (am_entry 44 [.inr (.inl 101), .inl (s : Int)] (n0, K, I, J, R)) Q := by
  have hs := hE.1
  have hw4 := hE.2.2.2.1
  have h12 := hT.2.1
  obtain ⟨ts, g, pe⟩ := w
  obtain ⟨w1, e, w2, w3, w4⟩ := hsp
  have w2 : ls_sp (ft_sp kd pl nu nm false 6) i ts e := w2
  have w3 : pe = pl e := w3
  have h60 : ls_sz (tm_sz 6) ts ≤ 60 := h60
  have ixs : (0 : Int) ≤ (s : Int) ∧ (s : Int) < ((2 : Nat) : Int) := ⟨by omega, by omega⟩
  have ixr : (0 : Int) ≤ ((12 * s + ρ : Nat) : Int) ∧ ((12 * s + ρ : Nat) : Int) < ((24 : Nat) : Int) := ⟨by omega, by omega⟩
  refine e_M_meaningOfRow ⟨(am_kk hB rfl), 116, (am_rf hB rfl), _, (am_kk hB rfl), ixs, am_nm_k h116 ?_⟩
  rintro _ rfl _ _
  refine ⟨(am_kk hB rfl), 119, (am_rf hB rfl), am_ar_i (by omega) (by omega) (am_ar_i (by omega) (by omega) ?_)⟩
  rw [show (12 : Int) * (s : Int) + (ρ : Int) = ((12 * s + ρ : Nat) : Int) by omega]
  refine ⟨_, by decide, (am_kk hB rfl), ixr, (am_kk hB rfl), 118, (am_rf hB rfl), am_ar_i (by omega) (by omega) (am_ar_i (by omega) (by omega) ?_)⟩
  rw [show (12 : Int) * (s : Int) + (ρ : Int) = ((12 * s + ρ : Nat) : Int) by omega]
  refine ⟨_, by decide, Or.inl ⟨(am_kk hB rfl), Or.inl rfl⟩, ixr, ⟨by decide, (am_kk hB rfl)⟩, ⟨by decide, (am_kk hB rfl)⟩, Or.inl rfl, ?_⟩
  have f1 : rr_fr s (12 * s + ρ) I (am_u (am_u (am_u (am_u I 119 (12 * s + ρ) 0) 118 (12 * s + ρ) 0) 101 33 0) 101 36 0) := rr_ut (rr_ut (rr_ut (rr_ut (fun _ _ _ => rfl) (by unfold rr_ch; omega)) (by unfold rr_ch; omega)) (by unfold rr_ch; omega)) (by unfold rr_ch; omega)
  have g119 : am_u (am_u (am_u (am_u I 119 (12 * s + ρ) 0) 118 (12 * s + ρ) 0) 101 33 0) 101 36 0 119 (12 * s + ρ) = 0 := by rw [am_u_ne (by decide), am_u_ne (by decide), am_u_ne (by decide), am_u_kk]
  have g118 : am_u (am_u (am_u (am_u I 119 (12 * s + ρ) 0) 118 (12 * s + ρ) 0) 101 33 0) 101 36 0 118 (12 * s + ρ) = 0 := by rw [am_u_ne (by decide), am_u_ne (by decide), am_u_kk]
  have g33 : am_u (am_u (am_u (am_u I 119 (12 * s + ρ) 0) 118 (12 * s + ρ) 0) 101 33 0) 101 36 0 101 33 = 0 := by rw [am_u_kn (by decide), am_u_kk]
  have g36 : am_u (am_u (am_u (am_u I 119 (12 * s + ρ) 0) 118 (12 * s + ρ) 0) 101 33 0) 101 36 0 101 36 = 0 := am_u_kk
  have ot : ∀ a j : Nat, ¬ (a = 119 ∧ j = 12 * s + ρ) → ¬ (a = 118 ∧ j = 12 * s + ρ) → ¬ (a = 101 ∧ (j = 33 ∨ j = 36)) → am_u (am_u (am_u (am_u I 119 (12 * s + ρ) 0) 118 (12 * s + ρ) 0) 101 33 0) 101 36 0 a j = I a j := fun a j h1 h2 h3 => by rw [am_u_off (by omega), am_u_off (by omega), am_u_off (by omega), am_u_off (by omega)]
  show am_WP (d + 5) (44, 46, [.inr (.inl 101), .inl (s : Int), .inl (ρ : Int), .inl 0, .inl 1, am_o], [], (0, 0), n0, K, am_u (am_u (am_u (am_u I 119 (12 * s + ρ) 0) 118 (12 * s + ρ) 0) 101 33 0) 101 36 0, J, R) Q
  generalize am_u (am_u (am_u (am_u I 119 (12 * s + ρ) 0) 118 (12 * s + ρ) 0) 101 33 0) 101 36 0 = I1 at f1 g119 g118 g33 g36 ot ⊢
  have mm1 : mm_fr s I I1 J J := rr_mm f1 hρ
  have t1 : mtab F G r s N m wd I1 J := by
    obtain ⟨h1, h2, h3, h4, h5, h6⟩ := ht
    exact ⟨(ot _ _ (by omega) (by omega) (by omega)).trans h1, (ot _ _ (by omega) (by omega) (by omega)).trans h2, (ot _ _ (by omega) (by omega) (by omega)).trans h3, fun z hz => (ot _ _ (by omega) (by omega) (by omega)).trans (h4 z hz), fun l hl => (ot _ _ (by omega) (by omega) (by omega)).trans (h5 l hl), fun c hc => ⟨(ot _ _ (by omega) (by omega) (by omega)).trans (h6 c hc).1, (ot _ _ (by omega) (by omega) (by omega)).trans (h6 c hc).2.1, fun z z3 hz => (ot _ _ (by omega) (by omega) (by omega)).trans ((h6 c hc).2.2.1 z z3 hz), (h6 c hc).2.2.2⟩⟩
  have i116 : I1 116 s = (ρ : Int) := (ot _ _ (by omega) (by omega) (by omega)).trans h116
  have i7 : I1 101 7 = (i : Int) := (ot _ _ (by omega) (by omega) (by omega)).trans h7
  have i8 : I1 101 8 = 0 := (ot _ _ (by omega) (by omega) (by omega)).trans h8
  have efg : ls_f (tf (fx (G (r + 7)) m) (F (r + 5)) (F (r + 6)) aT 6) (tm_at 6) pe W wd ts = oe (ls_g (tf (fx (G (r + 7)) m) (F (r + 5)) (F (r + 6)) aT 6) (tm_at 6) W wd ts) (if ts.length < wd then some pe else none) := ls_fg ts wd W
  refine ml_of (d := d) (n0 := n0) 6 hB hE hρ (mp_all hB hE hρ 6) ts i e 0 0 0 wd 1 W false [] I1 (mt_mm hT mm1) i7 hic i8 t1 ⟨g33, Or.inl ⟨rfl, rfl, rfl, rfl, rfl⟩⟩ (Nat.zero_le _) hw4 (by decide) (by decide) ⟨g36, fun h => absurd h (by decide)⟩ ⟨g119, trivial⟩ (by show 0 + _ ≤ 60; omega) w2 (fun e9 I2 col p1 p2 p3 p4 p5 p6 p7 p8 pK p9 => ?_) (fun k e9 I2 col hb => rd_46 hB hs hρ i116 hb (fun I3 hb3 => bad k ?_ I3 (mm_bt mm1 hb3)))
  · rw [Nat.sub_zero] at e9
    simp only [Nat.zero_add] at e9
    rw [e9] at efg
    have efg : ls_f (tf (fx (G (r + 7)) m) (F (r + 5)) (F (r + 6)) aT 6) (tm_at 6) pe W wd ts = if ts.length < wd then some pe else none := efg
    have ecol : col = ts.length := by
      rcases p5.2 with h | ⟨f', _, _, h, _⟩
      · have := h.2.1; omega
      · omega
    subst ecol
    have hT2 := mt_mm hT (mm_trans mm1 (rf_mm (J := J) p1 hρ))
    have fr2 : rr_fr s (12 * s + ρ) I I2 := rr_rf f1 p1
    have p33 : I2 101 33 = 0 := p5.1
    have a2 : acS I2 (12 * s + ρ) (ls_al (al (fx (G (r + 7)) m) (nwc F r) 6) 1 ts) := by
      have : ([] : List (Nat × Int)) ++ (if false = true then [] else ls_al (al (fx (G (r + 7)) m) (nwc F r) 6) (1 + 0) ts) = ls_al (al (fx (G (r + 7)) m) (nwc F r) 6) 1 ts := by simp
      rw [this] at p9; exact p9
    have i118 : I2 118 (12 * s + ρ) = 0 := (p1 _ _ (by unfold rf_ch; omega)).trans g118
    have i2116 : I2 116 s = (ρ : Int) := (p1 _ _ (by unfold rf_ch; omega)).trans i116
    have i114 : I2 114 s = (wd : Int) := (p1 _ _ (by unfold rf_ch; omega)).trans t1.2.2.1
    -- behind the row
    have r342 : ∀ (I3 : Nat → Nat → Int) (x4 : Int), rr_fr s (12 * s + ρ) I I3 → I3 101 8 = 0 → I3 101 7 = (j : Int) - 1 → I3 116 s = (ρ : Int) → I3 118 (12 * s + ρ) = xt_v g → acS I3 (12 * s + ρ) (ls_al (al (fx (G (r + 7)) m) (nwc F r) 6) 1 ts) → ls_f (tf (fx (G (r + 7)) m) (F (r + 5)) (F (r + 6)) aT 6) (tm_at 6) pe W wd ts = none → 0 < j → j ≤ c → am_WP (d + 5) (44, 325, [.inr (.inl 101), .inl (s : Int), .inl (ρ : Int), .inl (ts.length : Int), .inl x4, am_o], [], (0, 0), n0, K, I3, J, R) Q := by
      intro I3 x4 f3 q8 q7 q116 q118 qA hno j0 jc
      refine s_M_meaningOfRow_325 ⟨(am_kk hB rfl), am_nm_k q7 ?_⟩
      rintro _ rfl _ _
      refine ⟨(am_kk hB rfl), am_nm_k q8 ?_⟩
      rintro _ rfl _ _
      refine ⟨fun _ => s_M_meaningOfRow_342 (am_ar_i (by omega) (by omega) ⟨⟨by decide, (am_kk hB rfl)⟩, (am_kk hB rfl), 116, (am_rf hB rfl), _, (am_kk hB rfl), ixs, am_nm_k (show am_u I3 101 7 ((j : Int) - 1 + 1) 116 s = (ρ : Int) from (am_u_ne (by decide)).trans q116) ?_⟩), fun h => absurd rfl h⟩
      rintro _ rfl _ _
      refine am_ar_i (by omega) (by omega) ⟨_, by decide, (am_kk hB rfl), ixs, ok hno _ (rr_ut (rr_ut f3 (by unfold rr_ch; omega)) (by unfold rr_ch; omega)) ?_ jc ?_ am_u_kk ?_ (acS_fr qA (fun a j a1 a2 => ?_))⟩
      · rw [am_u_ne (by decide), am_u_kk]; omega
      · rw [am_u_ne (by decide), am_u_kn (by decide)]; exact q8
      · rw [am_u_ne (by decide), am_u_ne (by decide)]; exact q118
      · rw [am_u_ne (by omega), am_u_ne (by omega)]
    have r265 : am_WP (d + 5) (44, 265, [.inr (.inl 101), .inl (s : Int), .inl (ρ : Int), .inl (ts.length : Int), .inl 0, am_o], [], (0, 0), n0, K, I2, J, R) Q := by
      refine s_M_meaningOfRow_265 ⟨(am_kk hB rfl), am_nm_k p4 ?_⟩
      rintro _ rfl _ _
      refine ⟨fun h => absurd rfl h, fun _ => ⟨(am_kk hB rfl), 114, (am_rf hB rfl), _, (am_kk hB rfl), ixs, am_nm_k i114 ?_⟩⟩
      rintro _ rfl _ _
      refine ⟨fun hle => s_M_meaningOfRow_286 ⟨(am_kk hB rfl), am_nm_k p4 ?_⟩, fun hlt => ⟨(am_kk hB rfl), m_mispl hB hT2 p2 p3 p4 ⟨rfl, s_M_meaningOfRow_286 ⟨(am_kk hB rfl), am_nm_k (show am_u (am_u I2 101 8 1) 101 9 (pl e) 101 8 = 1 from (am_u_kn (by decide)).trans am_u_kk) ?_⟩⟩⟩⟩
      · rw [if_neg (by omega)] at efg
        rintro _ rfl _ _
        refine ⟨fun h => absurd rfl h, fun _ => ⟨(am_kk hB rfl), m_isWord (Or.inr (Or.inr (Or.inr ⟨rfl, rfl⟩))) hB hT2 p2 p3 (fun k9 => ⟨_, rfl, s_M_meaningOfRow_300 ⟨fun h => absurd h (by decide), fun _ => ⟨(am_kk hB rfl), 118, (am_rf hB rfl), am_ar_i (by omega) (by omega) (am_ar_i (by omega) (by omega) ?_)⟩⟩⟩) (fun n9 => ⟨_, rfl, s_M_meaningOfRow_300 ⟨fun _ => ?_, fun h => absurd rfl h⟩⟩)⟩⟩
        · obtain ⟨eg, -, k59, ej⟩ : g = true ∧ kd e = 9 ∧ kd (e + 1) = 59 ∧ j = e + 2 := by
            rcases w4 with h | h
            · exact h
            · exact absurd (k9.symm.trans h.2.1) (by decide)
          have l1 : e < c := mt_lt hT2 p3 (by rw [k9]; decide) (by rw [k9]; decide)
          have l2 : e + 1 < c := mt_lt hT2 l1 (by rw [k59]; decide) (by rw [k59]; decide)
          rw [show (12 : Int) * (s : Int) + (ρ : Int) = ((12 * s + ρ : Nat) : Int) by omega]
          refine ⟨_, by decide, Or.inl ⟨(am_kk hB rfl), Or.inr rfl⟩, ixr, (am_kk hB rfl), am_nm_k (show am_u I2 118 (12 * s + ρ) 1 101 7 = (e : Int) from (am_u_ne (by decide)).trans p2) ?_⟩
          rintro _ rfl _ _
          refine am_ar_i (by omega) (by omega) ⟨⟨by decide, (am_kk hB rfl)⟩, r342 _ 0 (rr_ut (rr_ut fr2 (by unfold rr_ch; omega)) (by unfold rr_ch; omega)) ?_ ?_ ?_ ?_ (acS_fr a2 (fun a j a1 a2 => ?_)) efg (by omega) (by omega)⟩
          · rw [am_u_kn (by decide), am_u_ne (by decide)]; exact p4
          · rw [am_u_kk]; omega
          · rw [am_u_ne (by decide), am_u_ne (by decide)]; exact i2116
          · rw [eg, am_u_ne (by decide)]; exact am_u_kk
          · rw [am_u_ne (by omega), am_u_ne (by omega)]
        · obtain ⟨eg, k59, ej⟩ : g = false ∧ kd e = 59 ∧ j = e + 1 := by
            rcases w4 with h | h
            · exact absurd h.2.1 n9
            · exact h
          have l1 : e < c := mt_lt hT2 p3 (by rw [k59]; decide) (by rw [k59]; decide)
          exact r342 I2 0 fr2 p4 (by rw [p2]; omega) i2116 (by rw [eg]; exact i118) a2 efg (by omega) (by omega)
      · rw [if_pos (by omega)] at efg
        rintro _ rfl _ _
        refine ⟨fun _ => s_M_meaningOfRow_325 ⟨(am_kk hB rfl), am_nm_k (show am_u (am_u I2 101 8 1) 101 9 (pl e) 101 7 = (e : Int) from by rw [am_u_kn (by decide), am_u_kn (by decide)]; exact p2) ?_⟩, fun h => absurd h (by decide)⟩
        rintro _ rfl _ _
        refine ⟨(am_kk hB rfl), am_nm_k (show am_u (am_u I2 101 8 1) 101 9 (pl e) 101 8 = 1 from (am_u_kn (by decide)).trans am_u_kk) ?_⟩
        rintro _ rfl _ _
        refine ⟨fun h => absurd h (by decide), fun _ => s_M_meaningOfRow_342 (am_ar_i (by omega) (by omega) ⟨⟨by decide, (am_kk hB rfl)⟩, (am_kk hB rfl), 116, (am_rf hB rfl), _, (am_kk hB rfl), ixs, am_nm_k (show am_u (am_u (am_u I2 101 8 1) 101 9 (pl e)) 101 7 ((e : Int) + 0) 116 s = (ρ : Int) from by rw [am_u_ne (by decide), am_u_ne (by decide), am_u_ne (by decide)]; exact i2116) ?_⟩)⟩
        rintro _ rfl _ _
        have ck : ∀ a j : Nat, rr_ch s (12 * s + ρ) a j → rr_ch s (12 * s + ρ) a j := fun _ _ h => h
        refine am_ar_i (by omega) (by omega) ⟨_, by decide, (am_kk hB rfl), ixs, bad pe efg _ ⟨rr_mm (rr_ut (rr_ut (rr_ut (rr_ut fr2 (by unfold rr_ch; omega)) (by unfold rr_ch; omega)) (by unfold rr_ch; omega)) (by unfold rr_ch; omega)) hρ, ?_, ?_, ?_, ?_⟩⟩
        · rw [am_u_ne (by decide), am_u_kn (by decide), am_u_kn (by decide)]; exact am_u_kk
        · rw [am_u_ne (by decide), am_u_kn (by decide), w3]; exact am_u_kk
        · rw [am_u_ne (by decide), am_u_kk]; omega
        · rw [am_u_ne (by decide), am_u_kk]; omega
    have r46 : am_WP (d + 5) (44, 46, [.inr (.inl 101), .inl (s : Int), .inl (ρ : Int), .inl (ts.length : Int), .inl 0, am_o], [], (0, 0), n0, K, I2, J, R) Q := s_M_meaningOfRow_46 ⟨fun _ => r265, fun h => absurd rfl h⟩
    refine s_M_meaningOfRow_46 ⟨fun h => absurd h (by decide), fun _ => ⟨(am_kk hB rfl), am_nm_k p4 ?_⟩⟩
    rintro _ rfl _ _
    refine ⟨fun h => absurd rfl h, fun _ => ⟨(am_kk hB rfl), am_nm_k p33 ?_⟩⟩
    rintro _ rfl _ _
    refine ⟨fun h => absurd rfl h, fun _ => ⟨(am_kk hB rfl), m_isSign (by unfold tb_sg; decide) hB hT2 p2 p3 (fun _ => ⟨_, rfl, s_M_meaningOfRow_71 ⟨fun _ => r46, fun h => absurd h (by decide)⟩⟩) (fun n59 => ⟨_, rfl, s_M_meaningOfRow_71 ⟨fun h => absurd rfl h, fun _ => ⟨(am_kk hB rfl), m_isWord (Or.inr (Or.inr (Or.inr ⟨rfl, rfl⟩))) hB hT2 p2 p3 (fun _ => ⟨_, rfl, s_M_meaningOfRow_81 ⟨fun h => absurd h (by decide), fun _ => r46⟩⟩) (fun n9 => ?_)⟩⟩⟩)⟩⟩
    exfalso
    rcases w4 with h | h
    · exact n9 h.2.1
    · exact n59 h.2.1
  · rw [Nat.sub_zero] at e9
    simp only [Nat.zero_add] at e9
    show ls_f _ _ pe W wd ts = some k
    rw [efg, e9]; rfl
def mr_rows (cof : Int → Int) (nwf : Int → Bool) (s : Nat) (I : Nat → Nat → Int) : Nat → List rw0 → Prop
  | _, [] => True
  | ρ, w :: ws => I 118 (12 * s + ρ) = xt_v w.2.1 ∧ acS I (12 * s + ρ) (ls_al (al cof nwf 6) 1 w.1) ∧ mr_rows cof nwf s I (ρ + 1) ws
theorem m_rows {Q : am_Q} {x2 : Int} (hB : am_B K R) (hE : rE F aT W r s N m wd) : ∀ (ws : List rw0) (ρ i j : Nat) (I : Nat → Nat → Int), mt_T I J kd pl nu nm c → I 101 7 = (i : Int) → i ≤ c → I 101 8 = 0 → mtab F G r s N m wd I J → I 116 s = (ρ : Int) → ls_sp (rw_sp kd pl nu nm) i ws j → kd j = 0 → ρ + ws.length ≤ 12 → rs_sz ws ≤ 60 →
    (rsf (fx (G (r + 7)) m) (F (r + 5)) (F (r + 6)) aT W wd ws = none → ∀ I' : Nat → Nat → Int, mm_fr s I I' J J → I' 101 8 = 0 → mtab F G r s N m wd I' J → I' 116 s = ((ρ + ws.length : Nat) : Int) → I' 117 s = I 117 s → mr_rows (fx (G (r + 7)) m) (nwc F r) s I' ρ ws → (∀ ρ' a j : Nat, ρ' < ρ → ((a = 118 ∨ a = 119) ∧ j = 12 * s + ρ' ∨ (a = 120 ∨ a = 121) ∧ 150 * (12 * s + ρ') ≤ j ∧ j < 150 * (12 * s + ρ') + 150) → I' a j = I a j) → Q none (n0, K, I', J, R)) →
    (∀ k : Int, rsf (fx (G (r + 7)) m) (F (r + 5)) (F (r + 6)) aT W wd ws = some k → ∀ I' : Nat → Nat → Int, mm_bad s k I I' J J → Q none (n0, K, I', J, R)) → am_WP (d + 6) (39, 391, [.inr (.inl 101), .inl (s : Int), .inl x2, am_o], [], (0, 0), n0, K, I, J, R) Q := by
  intro ws
  induction ws with
  | nil =>
    intro ρ i j I hT h7 hic h8 ht h116 hsp hj h12 h60 ok bad
    have e : i = j := hsp
    subst e
    refine s_M_meaningOfSet_391 ⟨(am_kk hB rfl), am_nm_k h8 ?_⟩
    rintro _ rfl _ _
    exact ⟨fun h => absurd rfl h, fun _ => ⟨(am_kk hB rfl), _, (am_rf hB rfl), (am_kk hB rfl), m_srt hB hT h7 hic (fun z _ e0 => ⟨fun _ => ok rfl I mm_refl h8 ht h116 rfl trivial (fun _ _ _ _ _ => rfl), fun h => absurd (e0.mpr hj) h⟩)⟩⟩
  | cons w ws ih =>
    intro ρ i j I hT h7 hic h8 ht h116 hsp hj h12 h60 ok bad
    obtain ⟨j1, hw, hrest⟩ := hsp
    have h0 := rw_sp_0 hw
    have h12' : ρ + (ws.length + 1) ≤ 12 := h12
    have es : rs_sz (w :: ws) = rw_sz w + rs_sz ws := rfl
    have er : rsf (fx (G (r + 7)) m) (F (r + 5)) (F (r + 6)) aT W wd (w :: ws) = oe (ls_f (tf (fx (G (r + 7)) m) (F (r + 5)) (F (r + 6)) aT 6) (tm_at 6) w.2.2 W wd w.1) (rsf (fx (G (r + 7)) m) (F (r + 5)) (F (r + 6)) aT W wd ws) := rfl
    refine s_M_meaningOfSet_391 ⟨(am_kk hB rfl), am_nm_k h8 ?_⟩
    rintro _ rfl _ _
    refine ⟨fun h => absurd rfl h, fun _ => ⟨(am_kk hB rfl), _, (am_rf hB rfl), (am_kk hB rfl), m_srt hB hT h7 hic (fun z _ e0 => ⟨fun h => absurd (e0.mp h) h0, fun _ => ⟨(am_kk hB rfl), m_row hB hE (by omega) hT h7 hic h8 ht h116 hw (by omega) (fun e9 I1 f1 p1 p2 p3 p4 p5 p6 => ⟨rfl, s_M_meaningOfSet_415 ?_⟩) (fun k e9 I1 hb => ⟨rfl, s_M_meaningOfSet_415 (s_M_meaningOfSet_391 ⟨(am_kk hB rfl), am_nm_k hb.2.1 ?_⟩)⟩)⟩⟩)⟩⟩
    · rw [e9] at er
      have er : rsf (fx (G (r + 7)) m) (F (r + 5)) (F (r + 6)) aT W wd (w :: ws) = rsf (fx (G (r + 7)) m) (F (r + 5)) (F (r + 6)) aT W wd ws := er
      have mm1 : mm_fr s I I1 J J := rr_mm f1 (by omega)
      have e1 : ∀ a j : Nat, 107 ≤ a → a ≤ 115 → I1 a j = I a j := fun a j h1 h2 => f1 a j (by unfold rr_ch; omega)
      have t1 : mtab F G r s N m wd I1 J := by
        obtain ⟨h1, h2, h3, h4, h5, h6⟩ := ht
        exact ⟨(e1 _ _ (by decide) (by decide)).trans h1, (e1 _ _ (by decide) (by decide)).trans h2, (e1 _ _ (by decide) (by decide)).trans h3, fun z hz => (e1 _ _ (by decide) (by decide)).trans (h4 z hz), fun l hl => (e1 _ _ (by decide) (by decide)).trans (h5 l hl), fun c hc => ⟨(e1 _ _ (by decide) (by decide)).trans (h6 c hc).1, (e1 _ _ (by decide) (by decide)).trans (h6 c hc).2.1, fun z z3 hz => (e1 _ _ (by decide) (by decide)).trans ((h6 c hc).2.2.1 z z3 hz), (h6 c hc).2.2.2⟩⟩
      refine ih (ρ + 1) j1 j I1 (mt_mm hT mm1) p1 p2 p3 t1 p4 hrest hj (by omega) (by omega) (fun e10 I2 q1 q2 q3 q4 q5 q6 q7 => ok (er.trans e10) I2 (mm_trans mm1 q1) q2 q3 (by rw [q4]; show ((ρ + 1 + ws.length : Nat) : Int) = ((ρ + (ws.length + 1) : Nat) : Int); omega) (q5.trans (f1 _ _ (by unfold rr_ch; omega))) ⟨?_, ?_, q6⟩ (fun ρ' a j hρ' hh => (q7 ρ' a j (by omega) hh).trans (f1 a j (by unfold rr_ch; omega)))) (fun k e10 I2 hb => bad k (er.trans e10) I2 (mm_bt mm1 hb))
      · rw [q7 ρ 118 (12 * s + ρ) (by omega) (Or.inl ⟨Or.inl rfl, rfl⟩)]; exact p5
      · refine ⟨?_, lsa_fr _ 0 p6.2 (fun a j h1 h2 h3 => q7 ρ a j (by omega) (Or.inr ⟨h1, by omega, ?_⟩))⟩
        · rw [q7 ρ 119 (12 * s + ρ) (by omega) (Or.inl ⟨Or.inr rfl, rfl⟩)]; exact p6.1
        · have := ls_al_len (cof := fx (G (r + 7)) m) (nwf := nwc F r) w.1 1
          have : rw_sz w = ls_sz (tm_sz 6) w.1 := rfl
          omega
    · rintro _ rfl _ _
      refine ⟨fun _ => bad k (by rw [er, e9]; rfl) I1 hb, fun h => absurd h (by decide)⟩
end MRW
