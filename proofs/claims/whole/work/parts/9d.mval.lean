/-! MEANING: the reference's values, by depth -/
section MVS
variable {d n0 : Nat} {K : Nat → am_K} {J : Nat → Nat → Int} {R : Nat → Nat → Option Nat} {Q : am_Q} {kd pl nu nm : Nat → Int} {c s : Nat} {N m wd : Nat} {F G : Nat → Nat → Int} {aT W : Nat → Int} {r : Nat}
theorem mvl_zero : mvl_P d n0 K J R Q kd pl nu nm c s N m wd F G aT W r 0 := by
  intro ts i j f cnt col many base V I hT h7 hic h8 ht hS hcnt hm4 hcol hfn hb hsp hok ok bad
  cases ts with
  | nil =>
    have e : i = j := hsp
    subst e
    exact ok ls_g_nil I col vf_refl (fun _ _ => rfl) h7 hic h8 hS hcol (fun _ => rfl) trivial
  | cons t ts => exact (hok t List.mem_cons_self).elim
theorem mvl_step (n : Nat) (hB : am_B K R) (hE : rE F aT W r s N m wd) (hL : mvl_P d n0 K J R Q kd pl nu nm c s N m wd F G aT W r n) : mvl_P d n0 K J R Q kd pl nu nm c s N m wd F G aT W r (n + 1) := by
  have hs := hE.1
  have hw4 := hE.2.2.2.1
  intro ts
  induction ts with
  | nil =>
    intro i j f cnt col many base V I hT h7 hic h8 ht hS hcnt hm4 hcol hfn hb hsp hok ok bad
    have e : i = j := hsp
    subst e
    exact ok ls_g_nil I col vf_refl (fun _ _ => rfl) h7 hic h8 hS hcol (fun _ => rfl) trivial
  | cons t ts ih =>
    intro i j f cnt col many base V I hT h7 hic h8 ht hS hcnt hm4 hcol hfn hb hsp hok ok bad
    obtain ⟨q, ht', hrest⟩ := hsp
    have h12 := hT.2.1
    have hbg := ft_sp_bg ht'
    have n41 : kd i ≠ 41 := fun h => absurd hbg (by rw [h]; exact ft_le_nb (Or.inl rfl))
    have nz : kd i ≠ 0 := fun h => absurd hbg (by rw [h]; exact ft_le_nb (Or.inr (Or.inr (Or.inr rfl))))
    have tok := hok t List.mem_cons_self
    -- one value is done
    have fin : cnt < many → tf (fx (G (r + 7)) m) (F (r + 5)) (F (r + 6)) aT (n + 1) (V cnt) t = none → ∀ (I1 : Nat → Nat → Int) (col1 : Nat), vf_fr f I I1 → (∀ x : Nat, ¬ un (base + cnt) x → I1 125 x = I 125 x) → I1 101 7 = (q : Int) → q ≤ c → I1 101 8 = 0 → rS F aT W r m wd f (cnt + 1) col1 V many base I1 → col1 ≤ col + 1 → (f ≠ 0 → col1 = col) → vS (fx (G (r + 7)) m) (nwc F r) (I1 125) (n + 1) (base + cnt) t → vw_L d n0 s K J R Q col1 I1 := by
      intro hlt e9 I1 col1 f1 fv g7 gq g8 gS gc gk gv
      obtain ⟨z, hz⟩ : ∃ z, many - cnt = z + 1 := ⟨many - cnt - 1, by omega⟩
      have eg : ls_g (tf (fx (G (r + 7)) m) (F (r + 5)) (F (r + 6)) aT (n + 1)) (tm_at (n + 1)) (fun z => V (cnt + z)) (many - cnt) (t :: ts) = ls_g (tf (fx (G (r + 7)) m) (F (r + 5)) (F (r + 6)) aT (n + 1)) (tm_at (n + 1)) (fun z => V (cnt + 1 + z)) (many - (cnt + 1)) ts := by
        rw [hz, show many - (cnt + 1) = z by omega]
        show oe (tf _ _ _ _ (n + 1) (V cnt) t) (ls_g _ _ (fun i => V (cnt + (i + 1))) z ts) = _
        rw [show (fun i => V (cnt + (i + 1))) = (fun z => V (cnt + 1 + z)) from funext fun i => by rw [show cnt + (i + 1) = cnt + 1 + i by omega], e9]
        rfl
      have c4 : col1 ≤ 4 := by
        by_cases h0 : f = 0
        · rcases gS.2 with h | ⟨f', _, _, h, _⟩
          · omega
          · omega
        · rw [gk h0]; exact hcol
      refine ih q j f (cnt + 1) col1 many base V I1 (vf_T hT f1) g7 gq g8 (vf_tab ht f1) gS (by omega) hm4 c4 hfn hb hrest (fun u hu => hok u (List.mem_cons_of_mem _ hu)) (fun e10 I2 col2 p1 pv p2 p3 p4 p5 p6 p7 p8 => ?_) (fun k e10 I2 col2 hbd => bad k (eg.trans e10) I2 col2 ⟨vf_trans (vf_trans vf_refl f1 (Nat.zero_le _)) hbd.1 (Nat.le_refl _), hbd.2⟩)
      have hlen := ls_g_len _ _ _ e10
      refine ok (eg.trans e10) I2 col2 (vf_trans f1 p1 (Nat.le_refl _)) (fun x hx => ?_) p2 p3 p4 ?_ p6 (fun h => (p7 h).trans (gk h)) ⟨vS_fr (n + 1) (base + cnt) t (tf_kd hE (n + 1) _ t tok e9) (fun x hx => pv x (fun y hy hu => ?_)) gv, ?_⟩
      · rw [pv x (fun y hy hu => hx (y + 1) (by show y + 1 < ts.length + 1; omega) (by rw [show base + cnt + (y + 1) = base + (cnt + 1) + y by omega]; exact hu)), fv x (hx 0 (by show 0 < ts.length + 1; omega))]
      · rw [show cnt + (t :: ts).length = cnt + 1 + ts.length by show cnt + (ts.length + 1) = _; omega]; exact p5
      · rcases hb with h1 | ⟨B, hB'⟩
        · omega
        · exact un_sib (P := B) ⟨by omega, by omega⟩ ⟨by omega, by omega⟩ (by omega) hx hu
      · exact p8
    have badT : cnt < many → ∀ k : Int, tf (fx (G (r + 7)) m) (F (r + 5)) (F (r + 6)) aT (n + 1) (V cnt) t = some k → ∀ (I1 : Nat → Nat → Int) (col1 : Nat), vbad I I1 → vw_L d n0 s K J R Q col1 I1 := by
      intro hlt k e9 I1 col1 hbd
      obtain ⟨z, hz⟩ : ∃ z, many - cnt = z + 1 := ⟨many - cnt - 1, by omega⟩
      refine bad k ?_ I1 col1 hbd
      rw [hz]
      show oe (tf _ _ _ _ (n + 1) (V cnt) t) _ = _
      rw [e9]; rfl
    refine s_M_meaningOfValues_12 ⟨(am_kk hB rfl), am_nm_k h8 ?_⟩
    rintro _ rfl _ _
    refine ⟨fun h => absurd rfl h, fun _ => ⟨(am_kk hB rfl), _, (am_rf hB rfl), (am_kk hB rfl), m_srt hB hT h7 hic (fun z _ e0 => ⟨fun h => absurd (e0.mp h) nz, fun _ => ⟨(am_kk hB rfl), m_isSign (by unfold tb_sg; decide) hB hT h7 hic (fun h => absurd h n41) (fun _ => ⟨_, rfl, s_M_meaningOfValues_37 ⟨fun _ => ⟨(am_kk hB rfl), m_want hB hE ht hS (by omega) (by omega) (fun hlt I1 l f1 g1 g2 g3 g4 => ⟨_, rfl, s_M_meaningOfValues_117 ⟨fun _ => ⟨(am_kk hB rfl), ?_⟩, fun h => absurd h (by decide)⟩⟩) (fun hge I1 f1 => ⟨_, rfl, s_M_meaningOfValues_117 ⟨fun h => absurd rfl h, fun _ => ⟨(am_kk hB rfl), ?_⟩⟩⟩)⟩, fun h => absurd rfl h⟩⟩)⟩⟩)⟩⟩
    · -- something is wanted
      have fr1 : vf_fr f I I1 := fun a j g => f1 a j (fun q => g (by unfold vf_ch; omega))
      have T1 := vf_T hT fr1
      have i7 : I1 101 7 = (i : Int) := (f1 _ _ (by omega)).trans h7
      have i8 : I1 101 8 = 0 := (f1 _ _ (by omega)).trans h8
      have S1 : rS F aT W r m wd f cnt col V many base I1 := rS_fr hS (f1 _ _ (by omega)) (fun a j a1 a2 a3 => f1 a j (by omega))
      have v1 : ∀ x : Nat, I1 125 x = I 125 x := fun x => f1 _ _ (by omega)
      have t1 := vf_tab ht fr1
      have p32 : base + cnt < 65536 := by
        have : 4 ^ (f + 1) ≤ 4 ^ 6 := Nat.pow_le_pow_right (by decide) (by omega)
        omega
      generalize hpp : base + cnt = p at fin badT g3 g4 p32
      -- a leaf: written, and behind
      have leaf : ∀ (I2 : Nat → Nat → Int) (x : Int) (e : Nat), vf_fr f I I2 → (∀ y : Nat, y ≠ p → I2 125 y = I 125 y) → I2 125 p = x → I2 101 7 = (e : Int) → e < 1201 → rS F aT W r m wd f cnt col V many base I2 → (∀ (I3 : Nat → Nat → Int) (col3 : Nat), vf_fr f I I3 → (∀ y : Nat, ¬ un p y → I3 125 y = I 125 y) → I3 125 p = x → I3 101 7 = ((e + 1 : Nat) : Int) → I3 101 8 = I2 101 8 → rS F aT W r m wd f (cnt + 1) col3 V many base I3 → col3 ≤ col + 1 → (f ≠ 0 → col3 = col) → vw_L d n0 s K J R Q col3 I3) → ∀ (d' : Nat) (Q' : am_Q), (∀ (I3 : Nat → Nat → Int) (zz : Int) (col3 : Nat), (col : Int) + zz = (col3 : Int) → col3 ≤ 5 → I3 101 7 = (e : Int) → vw_L d n0 s K J R Q col3 (am_u I3 101 7 ((e : Int) + 1)) → Q' (some (.inl zz)) (n0, K, I3, J, R)) → am_WP d' (am_entry 45 [.inr (.inl 101)] (n0, K, I2, J, R)) Q' := by
        intro I2 x e f2 fv2 hx2 g7 he gS next d' Q' hQ'
        refine mv_behind hB gS (by omega) (by omega) hcol (fun I3 zz col3 f3 S3 e1 e2 e3 => hQ' I3 zz col3 e1 (by omega) ((f3 _ _ (by omega)).trans g7) (next _ col3 (vf_ut (vf_trans f2 (f' := f) (fun a j g => f3 a j (fun q => g (by unfold vf_ch; omega))) (Nat.le_refl _)) (Or.inl ⟨rfl, by omega⟩)) (fun y hy => ?_) ?_ am_u_kk ?_ (rS_fr S3 (am_u_kn (by decide)) (fun a j a1 a2 a3 => am_u_ne (by omega))) e2 e3))
        · rw [am_u_ne (by decide), f3 _ _ (by omega), fv2 y (fun h => hy (by rw [h]; exact un_refl))]
        · rw [am_u_ne (by decide), f3 _ _ (by omega)]; exact hx2
        · rw [am_u_kn (by decide), f3 _ _ (by omega)]
      rcases ht' with ⟨k5, et, ej⟩ | ⟨k3, et, ej⟩ | ⟨k40, k3, ks, q', hne, hks, k41, et, ej⟩ | ⟨-, k63, et, ej⟩ | h5 | h5 | h5 | h5 | h5
      · -- a number
        subst et
        subst ej
        have hltc : i < c := mt_lt hT hic (by rw [k5]; decide) (by rw [k5]; decide)
        obtain ⟨dw, d0, d9⟩ := tr_dig (T1.1 i hic).2 k5
        have hs5 := (tr_sort (T1.1 i hic).2).2.2.2.1
        have etf : tf (fx (G (r + 7)) m) (F (r + 5)) (F (r + 6)) aT (n + 1) (V cnt) (tm_m (4, pl i, pl i, pl i, nm i, nu i) []) = if V cnt = 6 then none else some (pl i) := tf_4
        have go : ∀ I2 : Nat → Nat → Int, vf_fr f I I2 → (∀ y : Nat, I2 125 y = I 125 y) → I2 101 7 = (i : Int) → I2 101 35 = (p : Int) → rS F aT W r m wd f cnt col V many base I2 → (∀ (I3 : Nat → Nat → Int) (col3 : Nat), vf_fr f I I3 → (∀ y : Nat, ¬ un p y → I3 125 y = I 125 y) → I3 125 p = 100 + nu i → I3 101 7 = ((i + 1 : Nat) : Int) → I3 101 8 = I2 101 8 → rS F aT W r m wd f (cnt + 1) col3 V many base I3 → col3 ≤ col + 1 → (f ≠ 0 → col3 = col) → vw_L d n0 s K J R Q col3 I3) → am_WP (d + 5) (54, 193, [.inr (.inl 101), .inl (s : Int), .inl (col : Int), am_o, am_o], [], (0, 0), n0, K, I2, J, R) Q := by
          intro I2 f2 fv2 g7 g35 gS next
          refine s_M_meaningOfValues_193 ⟨(am_kk hB rfl), 125, (am_rf hB rfl), (am_kk hB rfl), am_nm_k g35 ?_⟩
          rintro _ rfl _ _
          refine ⟨(am_kk hB rfl), 105, (am_rf hB rfl), (am_kk hB rfl), am_nm_k g7 ?_⟩
          rintro _ rfl _ _
          refine ⟨_, by decide, (am_kk hB rfl), ⟨by omega, by omega⟩, am_nl_k dw ?_⟩
          rintro _ rfl _ _
          refine am_nm_k (am_l2i_k ⟨by omega, by omega⟩) ?_
          rintro _ rfl _ _
          refine am_ar_i (by omega) (by omega) ⟨_, by decide, (am_kk hB rfl), ⟨by omega, by omega⟩, (am_kk hB rfl), ?_⟩
          refine leaf (am_u I2 125 p (100 + nu i)) (100 + nu i) i (vf_ut f2 (Or.inr (Or.inr (Or.inr rfl)))) (fun y hy => (am_u_kn hy).trans (fv2 y)) am_u_kk ((am_u_ne (by decide)).trans g7) (by omega) (rS_fr gS (am_u_ne (by decide)) (fun a j a1 a2 a3 => am_u_ne (by omega))) (fun I3 col3 q1 q2 q3 q4 q5 q6 q7 q8 => next I3 col3 q1 q2 q3 q4 (q5.trans (am_u_ne (by decide))) q6 q7 q8) _ _ (fun I3 zz col3 e1 e5 e7 hw => ⟨zz, rfl, s_M_meaningOfValues_220 (am_ar_i (by omega) (by omega) ⟨(am_kk hB rfl), am_nm_k e7 ?_⟩)⟩)
          rintro _ rfl _ _
          rw [e1]
          exact am_ar_i (by omega) (by omega) ⟨⟨by decide, (am_kk hB rfl)⟩, hw⟩
        refine m_isSign (by unfold tb_sg; decide) hB T1 i7 hic (fun h => absurd (k5.symm.trans h) (by decide)) (fun _ => ⟨_, rfl, s_M_meaningOfValues_133 ⟨fun _ => ⟨(am_kk hB rfl), 103, (am_rf hB rfl), (am_kk hB rfl), am_nm_k i7 ?_⟩, fun h => absurd rfl h⟩⟩)
        rintro _ rfl _ _
        refine ⟨_, (am_kk hB rfl), ⟨by omega, by omega⟩, fun z3 hz3 _ _ => ⟨fun h => absurd (hz3.trans (hs5.mpr k5)) h, fun _ => ⟨(am_kk hB rfl), am_nm_k g1 ?_⟩⟩⟩
        rintro _ rfl _ _
        refine ⟨fun l8 => ?_, fun l8 => ⟨(am_kk hB rfl), m_mispl hB T1 i7 hic i8 ⟨rfl, ?_⟩⟩⟩
        · rw [if_pos ((wt_8 hE g2).mp l8)] at etf
          exact go I1 fr1 v1 i7 g3 S1 (fun I3 col3 q1 q2 q3 q4 q5 q6 q7 q8 => fin hlt etf I3 col3 q1 q2 q4 hltc (q5.trans i8) q6 q7 q8 (Or.inr (Or.inl ⟨rfl, q3⟩)))
        · rw [if_neg (fun h => l8 ((wt_8 hE g2).mpr h))] at etf
          refine go _ (vf_ut (vf_ut fr1 (Or.inl ⟨rfl, by omega⟩)) (Or.inl ⟨rfl, by omega⟩)) (fun y => by rw [am_u_ne (by decide), am_u_ne (by decide)]; exact v1 y) ?_ ?_ (rS_fr S1 ?_ (fun a j a1 a2 a3 => by rw [am_u_ne (by omega), am_u_ne (by omega)])) (fun I3 col3 q1 q2 q3 q4 q5 q6 q7 q8 => badT hlt _ etf I3 col3 ⟨vf_trans vf_refl q1 (Nat.zero_le _), ?_⟩)
          · rw [am_u_kn (by decide), am_u_kn (by decide)]; exact i7
          · rw [am_u_kn (by decide), am_u_kn (by decide)]; exact g3
          · rw [am_u_kn (by decide), am_u_kn (by decide)]
          · rw [q5, am_u_kn (by decide)]; exact am_u_kk
      · -- a constructor alone
        subst et
        subst ej
        have hltc : i < c := mt_lt hT hic (by rw [k3]; decide) (by rw [k3]; decide)
        have hs5 := (tr_sort (T1.1 i hic).2).2.2.2.1
        have etf : tf (fx (G (r + 7)) m) (F (r + 5)) (F (r + 6)) aT (n + 1) (V cnt) (tm_m (5, pl i, pl i, pl i, nm i, nu i) []) = _ := tf_5
        refine m_isSign (by unfold tb_sg; decide) hB T1 i7 hic (fun h => absurd (k3.symm.trans h) (by decide)) (fun _ => ⟨_, rfl, s_M_meaningOfValues_133 ⟨fun _ => ⟨(am_kk hB rfl), 103, (am_rf hB rfl), (am_kk hB rfl), am_nm_k i7 ?_⟩, fun h => absurd rfl h⟩⟩)
        rintro _ rfl _ _
        refine ⟨_, (am_kk hB rfl), ⟨by omega, by omega⟩, fun z3 hz3 _ _ => ⟨fun _ => ⟨(am_kk hB rfl), m_isSign (by unfold tb_sg; decide) hB T1 i7 hic (fun h => absurd (k3.symm.trans h) (by decide)) (fun _ => ⟨_, rfl, s_M_meaningOfValues_241 ⟨(am_kk hB rfl), am_nm_k i7 ?_⟩⟩)⟩, fun h => absurd (k3.symm.trans (hs5.mp (hz3.symm.trans h))) (by decide)⟩⟩
        rintro _ rfl _ _
        refine ⟨fun _ => s_M_meaningOfValues_256 (am_ar_i (by omega) (by omega) ⟨⟨by decide, (am_kk hB rfl)⟩, (am_kk hB rfl), ?_⟩), fun h => absurd rfl h⟩
        rw [Int.add_zero, show am_u I1 101 7 (i : Int) = I1 by rw [← i7]; exact am_u_self]
        have die : ∀ (k : Int) (I2 : Nat → Nat → Int) (X Y : Int), tf (fx (G (r + 7)) m) (F (r + 5)) (F (r + 6)) aT (n + 1) (V cnt) (tm_m (5, pl i, pl i, pl i, nm i, nu i) []) = some k → vf_fr f I I2 → I2 101 8 = 1 → am_WP (d + 5) (54, 297, [.inr (.inl 101), .inl (s : Int), .inl (col : Int), .inl X, .inl Y], [], (0, 0), n0, K, I2, J, R) Q := by
          intro k I2 X Y e9 f2 g8
          refine s_M_meaningOfValues_297 ⟨(am_kk hB rfl), am_nm_k g8 ?_⟩
          rintro _ rfl _ _
          exact ⟨fun _ => am_WP.forget (badT hlt k e9 I2 col ⟨vf_trans vf_refl f2 (Nat.zero_le _), g8⟩) _ (am_le_eq (am_le_eq (am_le_eq (am_le_o (am_le_o am_le_nil))))), fun h => absurd h (by decide)⟩
        have fmis : vf_fr f I (am_u (am_u I1 101 8 1) 101 9 (pl i)) := vf_ut (vf_ut fr1 (Or.inl ⟨rfl, by omega⟩)) (Or.inl ⟨rfl, by omega⟩)
        have m8 : am_u (am_u I1 101 8 1) 101 9 (pl i) 101 8 = 1 := (am_u_kn (by decide)).trans am_u_kk
        refine m_conHere hB hE t1 T1 i7 hic i8 k3 g1 g2 (fun c' hc' x1 x2 => ⟨_, rfl, s_M_meaningOfValues_265 ⟨(am_kk hB rfl), am_nm_k i8 ?_⟩⟩) (fun hx z => ⟨z, rfl, s_M_meaningOfValues_265 ⟨(am_kk hB rfl), am_nm_k m8 ?_⟩⟩)
        · have hcx : ¬ (fx (G (r + 7)) m (nm i) = -1 ∨ F (r + 5) (fx (G (r + 7)) m (nm i)).toNat ≠ V cnt) := by
            rw [x1, Int.toNat_natCast]
            rintro (q | q)
            · omega
            · exact q x2
          rw [if_neg hcx, x1, Int.toNat_natCast] at etf
          have m2 := (t1.2.2.2.2.2 c' hc').2.1
          have hmm := hE.2.2.1
          have ha := hE.2.2.2.2.2.1 c' hc'
          obtain ⟨⟨T, hT', hcT, hnw⟩, -⟩ := ha
          rintro _ rfl _ _
          refine ⟨fun h => absurd rfl h, fun _ => ⟨fun h => absurd rfl h, fun _ => ⟨(am_kk hB rfl), 112, (am_rf hB rfl), am_ar_i (by omega) (by omega) (am_ar_i (by omega) (by omega) ?_)⟩⟩⟩
          rw [show (36 : Int) * (s : Int) + (c' : Int) = ((36 * s + c' : Nat) : Int) by omega]
          refine ⟨_, (am_kk hB rfl), ⟨by omega, by omega⟩, am_nm_k m2 ?_⟩
          rintro _ rfl _ _
          have ha0 := (hE.2.2.2.2.2.1 c' hc').2.1
          refine ⟨fun h0 => s_M_meaningOfValues_297 ⟨(am_kk hB rfl), am_nm_k i8 ?_⟩, fun h0 => ⟨(am_kk hB rfl), m_mispl hB T1 i7 hic i8 ⟨rfl, die (pl i) _ _ _ (by rw [etf, if_neg (by omega)]) fmis m8⟩⟩⟩
          rw [if_pos (show F (r + 6) c' = 0 by omega)] at etf
          rintro _ rfl _ _
          obtain ⟨l2, hl2⟩ : ∃ l2 : Nat, l = (l2 : Int) := ⟨l.toNat, by have := g2.1; omega⟩
          have l25 := g2.2.1
          have gl : F (r + 9) T = l := (wt_con hE g2 hT').mpr (by rw [← x2, hcT])
          have hnwc : nwc F r (c' : Int) = decide (F (r + 2) T = 1) := by
            unfold nwc; rw [Int.toNat_natCast, hcT, Int.toNat_natCast]
          have n01 := (hE.2.2.2.2.1 T hT').2.2.2
          refine ⟨fun h => absurd rfl h, fun _ => ⟨(am_kk hB rfl), 107, (am_rf hB rfl), am_ar_i (by omega) (by omega) ⟨(am_kk hB rfl), am_nm_k (g1.trans hl2) ?_⟩⟩⟩
          rintro _ rfl _ _
          refine am_ar_i (by omega) (by omega) ?_
          rw [show (26 : Int) * (s : Int) + (l2 : Int) = ((26 * s + l2 : Nat) : Int) by omega]
          have kk : I1 107 (26 * s + l2) = F (r + 2) T + 1 := by
            rw [t1.2.2.2.2.1 l2 (by omega), ← hl2, ← gl]; exact kx_T hE hT'
          refine ⟨_, (am_kk hB rfl), ⟨by omega, by omega⟩, am_nm_k kk ?_⟩
          rintro _ rfl _ _
          have go : ∀ I2 : Nat → Nat → Int, vf_fr f I I2 → (∀ y : Nat, y ≠ p → I2 125 y = I 125 y) → I2 101 7 = (i : Int) → I2 101 8 = 0 → rS F aT W r m wd f cnt col V many base I2 → vS (fx (G (r + 7)) m) (nwc F r) (I2 125) (n + 1) p (tm_m (5, pl i, pl i, pl i, nm i, nu i) []) → am_WP (d + 5) (54, 333, [.inr (.inl 101), .inl (s : Int), .inl (col : Int), .inl 0, .inl (c' : Int)], [], (0, 0), n0, K, I2, J, R) Q := by
            intro I2 f2 fv2 h72 h82 hS2 hv2
            refine s_M_meaningOfValues_333 ⟨(am_kk hB rfl), am_nm_k h72 ?_⟩
            rintro _ rfl _ _
            refine am_ar_i (by omega) (by omega) ⟨⟨by decide, (am_kk hB rfl)⟩, fun _ => ⟨(am_kk hB rfl), mv_behind hB (rS_fr hS2 (am_u_kn (by decide)) (fun a j a1 a2 a3 => am_u_ne (by omega))) (by omega) (by omega) hcol (fun I3 zz col3 f3 S3 e1 e2 e3 => ⟨zz, rfl, s_M_meaningOfValues_399 (am_ar_i (by omega) (by omega) ?_)⟩)⟩, fun h => absurd rfl h⟩
            rw [e1]
            have v3 : ∀ y : Nat, I3 125 y = I2 125 y := fun y => by rw [f3 _ _ (by omega), am_u_ne (by decide)]
            have g := fin hlt etf I3 col3 (vf_trans (vf_ut f2 (Or.inl ⟨rfl, by omega⟩)) (f' := f) (fun a j g => f3 a j (fun q => g (by unfold vf_ch; omega))) (Nat.le_refl _)) (fun y hy => (v3 y).trans (fv2 y (fun h => hy (by rw [h]; exact un_refl)))) (by rw [f3 _ _ (by omega), am_u_kk]; rfl) hltc (by rw [f3 _ _ (by omega), am_u_kn (by decide)]; exact h82) S3 e2 e3 (by rw [show I3 125 = I2 125 from funext v3]; exact hv2)
            exact am_WP.forget g _ (am_le_eq (am_le_eq (am_le_eq (am_le_o (am_le_o am_le_nil)))))
          refine ⟨fun n1 => go I1 fr1 (fun y _ => v1 y) i7 i8 S1 (Or.inr (Or.inr ⟨Or.inl rfl, Or.inl ⟨?_, trivial⟩⟩)), fun k1 => ⟨(am_kk hB rfl), 125, (am_rf hB rfl), (am_kk hB rfl), am_nm_k g3 ?_⟩⟩
          · show nwc F r (fx (G (r + 7)) m (nm i)) = true
            rw [x1, hnwc]; simp; omega
          · rintro _ rfl _ _
            refine ⟨_, by decide, (am_kk hB rfl), ⟨by omega, by omega⟩, go (am_u I1 125 p (c' : Int)) (vf_ut fr1 (Or.inr (Or.inr (Or.inr rfl)))) (fun y hy => (am_u_kn hy).trans (v1 y)) ((am_u_ne (by decide)).trans i7) ((am_u_ne (by decide)).trans i8) (rS_fr S1 (am_u_ne (by decide)) (fun a j a1 a2 a3 => am_u_ne (by omega))) (Or.inr (Or.inr ⟨Or.inl rfl, Or.inr ⟨?_, ?_, trivial⟩⟩))⟩
            · show nwc F r (fx (G (r + 7)) m (nm i)) = false
              rw [x1, hnwc]; simp; omega
            · show am_u I1 125 p (c' : Int) 125 p = fx (G (r + 7)) m (nm i)
              rw [am_u_kk, x1]
        · rw [if_pos hx] at etf
          rintro _ rfl _ _
          exact ⟨fun _ => die (pl i) _ _ _ etf fmis m8, fun h => absurd h (by decide)⟩
      · -- a constructor with values
        subst et
        subst ej
        have hltc : i < c := mt_lt hT hic (by rw [k40]; decide) (by rw [k40]; decide)
        have hlt1 : i + 1 < c := mt_lt hT hltc (by rw [k3]; decide) (by rw [k3]; decide)
        have hs5 := (tr_sort (T1.1 i hic).2).2.2.2.1
        have etf : tf (fx (G (r + 7)) m) (F (r + 5)) (F (r + 6)) aT (n + 1) (V cnt) (tm_m (6, pl i, pl (i + 1), pl q', nm (i + 1), nu i) ks) = _ := tf_6
        have kok : ∀ k ∈ ks, tm_ok n k := by
          rcases tok.2.2.2 with h | h | h | h
          · rcases h.1 with h | h | h <;> exact absurd (show (6 : Int) = _ from h) (by decide)
          · exact absurd (show (6 : Int) = 4 from h.1) (by decide)
          · rcases h.1 with h | h | h <;> exact absurd (show (6 : Int) = _ from h) (by decide)
          · exact h.2.2
        refine m_isSign (by unfold tb_sg; decide) hB T1 i7 hic (fun h => absurd (k40.symm.trans h) (by decide)) (fun _ => ⟨_, rfl, s_M_meaningOfValues_133 ⟨fun _ => ⟨(am_kk hB rfl), 103, (am_rf hB rfl), (am_kk hB rfl), am_nm_k i7 ?_⟩, fun h => absurd rfl h⟩⟩)
        rintro _ rfl _ _
        refine ⟨_, (am_kk hB rfl), ⟨by omega, by omega⟩, fun z3 hz3 _ _ => ⟨fun _ => ⟨(am_kk hB rfl), m_isSign (by unfold tb_sg; decide) hB T1 i7 hic (fun _ => ⟨_, rfl, s_M_meaningOfValues_241 ⟨(am_kk hB rfl), am_nm_k i7 ?_⟩⟩) (fun h => absurd k40 h)⟩, fun h => absurd (k40.symm.trans (hs5.mp (hz3.symm.trans h))) (by decide)⟩⟩
        rintro _ rfl _ _
        refine ⟨fun h => absurd h (by decide), fun _ => s_M_meaningOfValues_256 (am_ar_i (by omega) (by omega) ⟨⟨by decide, (am_kk hB rfl)⟩, (am_kk hB rfl), ?_⟩)⟩
        have o2 : ∀ a j : Nat, ¬ (a = 101 ∧ j = 7) → am_u I1 101 7 ((i : Int) + 1) a j = I1 a j := fun a j h => am_u_off h
        have fr2 : vf_fr f I (am_u I1 101 7 ((i : Int) + 1)) := vf_ut fr1 (Or.inl ⟨rfl, by omega⟩)
        have i72 : am_u I1 101 7 ((i : Int) + 1) 101 7 = ((i + 1 : Nat) : Int) := am_u_kk
        generalize am_u I1 101 7 ((i : Int) + 1) = I2 at o2 fr2 i72 ⊢
        have T2 := vf_T hT fr2
        have i82 : I2 101 8 = 0 := (o2 _ _ (by omega)).trans i8
        have t2 := vf_tab ht fr2
        have S2 : rS F aT W r m wd f cnt col V many base I2 := rS_fr S1 (o2 _ _ (by omega)) (fun a j a1 a2 a3 => o2 a j (by omega))
        have fmis : vf_fr f I (am_u (am_u I2 101 8 1) 101 9 (pl (i + 1))) := vf_ut (vf_ut fr2 (Or.inl ⟨rfl, by omega⟩)) (Or.inl ⟨rfl, by omega⟩)
        have m8 : am_u (am_u I2 101 8 1) 101 9 (pl (i + 1)) 101 8 = 1 := (am_u_kn (by decide)).trans am_u_kk
        refine m_conHere hB hE t2 T2 i72 hltc i82 k3 ((o2 _ _ (by omega)).trans g1) g2 (fun c' hc' x1 x2 => ⟨_, rfl, s_M_meaningOfValues_265 ⟨(am_kk hB rfl), am_nm_k i82 ?_⟩⟩) (fun hx z => ⟨z, rfl, s_M_meaningOfValues_265 ⟨(am_kk hB rfl), am_nm_k m8 ?_⟩⟩)
        · have hcx : ¬ (fx (G (r + 7)) m (nm (i + 1)) = -1 ∨ F (r + 5) (fx (G (r + 7)) m (nm (i + 1))).toNat ≠ V cnt) := by
            rw [x1, Int.toNat_natCast]
            rintro (q | q)
            · omega
            · exact q x2
          rw [if_neg hcx, x1, Int.toNat_natCast, ls_fg] at etf
          have hmm := hE.2.2.1
          obtain ⟨⟨T, hT', hcT, hnw⟩, ha0, ha3, -⟩ := hE.2.2.2.2.2.1 c' hc'
          obtain ⟨mn, hmn⟩ : ∃ mn : Nat, F (r + 6) c' = (mn : Int) := ⟨(F (r + 6) c').toNat, by omega⟩
          rw [hmn, Int.toNat_natCast] at etf
          obtain ⟨l2, hl2⟩ : ∃ l2 : Nat, l = (l2 : Int) := ⟨l.toNat, by have := g2.1; omega⟩
          have l25 := g2.2.1
          have gl : F (r + 9) T = l := (wt_con hE g2 hT').mpr (by rw [← x2, hcT])
          have hnwc : nwc F r (c' : Int) = decide (F (r + 2) T = 1) := by
            unfold nwc; rw [Int.toNat_natCast, hcT, Int.toNat_natCast]
          have n01 := (hE.2.2.2.2.1 T hT').2.2.2
          have ixf : (0 : Int) ≤ (f : Int) ∧ (f : Int) < ((8 : Nat) : Int) := ⟨by omega, by omega⟩
          rintro _ rfl _ _
          refine ⟨fun h => absurd rfl h, fun _ => ⟨fun _ => s_M_meaningOfValues_297 ⟨(am_kk hB rfl), am_nm_k i82 ?_⟩, fun h => absurd h (by decide)⟩⟩
          rintro _ rfl _ _
          refine ⟨fun h => absurd rfl h, fun _ => ⟨(am_kk hB rfl), 107, (am_rf hB rfl), am_ar_i (by omega) (by omega) ⟨(am_kk hB rfl), am_nm_k (((o2 _ _ (by omega)).trans g1).trans hl2) ?_⟩⟩⟩
          rintro _ rfl _ _
          refine am_ar_i (by omega) (by omega) ?_
          rw [show (26 : Int) * (s : Int) + (l2 : Int) = ((26 * s + l2 : Nat) : Int) by omega]
          have kk : I2 107 (26 * s + l2) = F (r + 2) T + 1 := by
            rw [t2.2.2.2.2.1 l2 (by omega), ← hl2, ← gl]; exact kx_T hE hT'
          refine ⟨_, (am_kk hB rfl), ⟨by omega, by omega⟩, am_nm_k kk ?_⟩
          rintro _ rfl _ _
          -- the frame is opened
          have go : ∀ I3 : Nat → Nat → Int, vf_fr f I I3 → (∀ y : Nat, y ≠ p → I3 125 y = I 125 y) → (nwc F r (c' : Int) = false → I3 125 p = (c' : Int)) → I3 101 7 = ((i + 1 : Nat) : Int) → I3 101 8 = 0 → I3 101 35 = (p : Int) → rS F aT W r m wd f cnt col V many base I3 → am_WP (d + 5) (54, 333, [.inr (.inl 101), .inl (s : Int), .inl (col : Int), .inl 1, .inl (c' : Int)], [], (0, 0), n0, K, I3, J, R) Q := by
            intro I3 f3 fv3 hp3 h73 h83 h353 hS3
            have i33 := hS3.1
            refine s_M_meaningOfValues_333 ⟨(am_kk hB rfl), am_nm_k h73 ?_⟩
            rintro _ rfl _ _
            refine am_ar_i (by omega) (by omega) ⟨⟨by decide, (am_kk hB rfl)⟩, fun h => absurd h (by decide), fun _ => ⟨(am_kk hB rfl), 122, (am_rf hB rfl), (am_kk hB rfl), am_nm_k (show am_u I3 101 7 (((i + 1 : Nat) : Int) + 1) 101 33 = (f : Int) from (am_u_kn (by decide)).trans i33) ?_⟩⟩
            rintro _ rfl _ _
            refine ⟨_, by decide, (am_kk hB rfl), ixf, (am_kk hB rfl), 123, (am_rf hB rfl), (am_kk hB rfl), am_nm_k (show am_u (am_u I3 101 7 (((i + 1 : Nat) : Int) + 1)) 122 f (c' : Int) 101 33 = (f : Int) from by rw [am_u_ne (by decide), am_u_kn (by decide), i33]) ?_⟩
            rintro _ rfl _ _
            refine ⟨_, by decide, (am_kk hB rfl), ixf, (am_kk hB rfl), 124, (am_rf hB rfl), (am_kk hB rfl), am_nm_k (show am_u (am_u (am_u I3 101 7 (((i + 1 : Nat) : Int) + 1)) 122 f (c' : Int)) 123 f 0 101 33 = (f : Int) from by rw [am_u_ne (by decide), am_u_ne (by decide), am_u_kn (by decide), i33]) ?_⟩
            rintro _ rfl _ _
            refine ⟨(am_kk hB rfl), am_nm_k (show am_u (am_u (am_u I3 101 7 (((i + 1 : Nat) : Int) + 1)) 122 f (c' : Int)) 123 f 0 101 35 = (p : Int) from by rw [am_u_ne (by decide), am_u_ne (by decide), am_u_kn (by decide), h353]) ?_⟩
            rintro _ rfl _ _
            refine ⟨_, by decide, (am_kk hB rfl), ixf, (am_kk hB rfl), am_nm_k (show am_u (am_u (am_u (am_u I3 101 7 (((i + 1 : Nat) : Int) + 1)) 122 f (c' : Int)) 123 f 0) 124 f (p : Int) 101 33 = (f : Int) from by rw [am_u_ne (by decide), am_u_ne (by decide), am_u_ne (by decide), am_u_kn (by decide), i33]) ?_⟩
            rintro _ rfl _ _
            refine am_ar_i (by omega) (by omega) ⟨⟨by decide, (am_kk hB rfl)⟩, ?_⟩
            refine am_WP.forget (ls := [.inr (.inl 101), .inl (s : Int), .inl (col : Int), am_o, am_o]) ?_ _ (am_le_eq (am_le_eq (am_le_eq (am_le_o (am_le_o am_le_nil)))))
            show vw_L d n0 s K J R Q col (am_u (am_u (am_u (am_u (am_u I3 101 7 (((i + 1 : Nat) : Int) + 1)) 122 f (c' : Int)) 123 f 0) 124 f (p : Int)) 101 33 ((f : Int) + 1))
            have f7 : ∀ a j : Nat, ¬ (a = 101 ∧ (j = 7 ∨ j = 33)) → ¬ ((a = 122 ∨ a = 123 ∨ a = 124) ∧ j = f) → am_u (am_u (am_u (am_u (am_u I3 101 7 (((i + 1 : Nat) : Int) + 1)) 122 f (c' : Int)) 123 f 0) 124 f (p : Int)) 101 33 ((f : Int) + 1) a j = I3 a j := fun a j h1 h2 => by rw [am_u_off (by omega), am_u_off (by omega), am_u_off (by omega), am_u_off (by omega), am_u_off (by omega)]
            have j7 : am_u (am_u (am_u (am_u (am_u I3 101 7 (((i + 1 : Nat) : Int) + 1)) 122 f (c' : Int)) 123 f 0) 124 f (p : Int)) 101 33 ((f : Int) + 1) 101 7 = ((i + 2 : Nat) : Int) := by rw [am_u_kn (by decide), am_u_ne (by decide), am_u_ne (by decide), am_u_ne (by decide), am_u_kk]; omega
            have j33 : am_u (am_u (am_u (am_u (am_u I3 101 7 (((i + 1 : Nat) : Int) + 1)) 122 f (c' : Int)) 123 f 0) 124 f (p : Int)) 101 33 ((f : Int) + 1) 101 33 = ((f + 1 : Nat) : Int) := am_u_kk
            have j122 : am_u (am_u (am_u (am_u (am_u I3 101 7 (((i + 1 : Nat) : Int) + 1)) 122 f (c' : Int)) 123 f 0) 124 f (p : Int)) 101 33 ((f : Int) + 1) 122 f = (c' : Int) := by rw [am_u_ne (by decide), am_u_ne (by decide), am_u_ne (by decide), am_u_kk]
            have j123 : am_u (am_u (am_u (am_u (am_u I3 101 7 (((i + 1 : Nat) : Int) + 1)) 122 f (c' : Int)) 123 f 0) 124 f (p : Int)) 101 33 ((f : Int) + 1) 123 f = ((0 : Nat) : Int) := by rw [am_u_ne (by decide), am_u_ne (by decide), am_u_kk]; rfl
            have j124 : am_u (am_u (am_u (am_u (am_u I3 101 7 (((i + 1 : Nat) : Int) + 1)) 122 f (c' : Int)) 123 f 0) 124 f (p : Int)) 101 33 ((f : Int) + 1) 124 f = (p : Int) := by rw [am_u_ne (by decide), am_u_kk]
            generalize am_u (am_u (am_u (am_u (am_u I3 101 7 (((i + 1 : Nat) : Int) + 1)) 122 f (c' : Int)) 123 f 0) 124 f (p : Int)) 101 33 ((f : Int) + 1) = I7 at f7 j7 j33 j122 j123 j124 ⊢
            have fr7 : vf_fr f I I7 := fun a j g => (f7 a j (fun q => g (by unfold vf_ch; omega)) (fun q => g (by unfold vf_ch; omega))).trans (f3 a j g)
            have v7 : ∀ y : Nat, I7 125 y = I3 125 y := fun y => f7 _ _ (by omega) (by omega)
            have hbb : mn ≤ 1 ∨ ∃ B : Nat, (if nwc F r (c' : Int) = true then p else 4 * p + 1) = 4 * B + 1 := by
              cases hb' : nwc F r (c' : Int) with
              | true =>
                left
                rw [hnwc] at hb'
                have := hnw (by simpa using hb')
                omega
              | false => right; exact ⟨p, rfl⟩
            have unp : ∀ z y : Nat, z < mn → un ((if nwc F r (c' : Int) = true then p else 4 * p + 1) + 0 + z) y → un p y := by
              intro z y hz hu
              cases hb' : nwc F r (c' : Int) with
              | true =>
                rw [hb'] at hu
                have h1 : mn ≤ 1 := by
                  rw [hnwc] at hb'
                  have := hnw (by simpa using hb')
                  omega
                have : z = 0 := by omega
                rw [this] at hu; exact hu
              | false =>
                rw [hb'] at hu
                exact un_child (i := z) (by omega) hu
            refine hL ks (i + 2) q' (f + 1) 0 col mn (if nwc F r (c' : Int) = true then p else 4 * p + 1) (fun z => aT (3 * c' + z)) I7 (vf_T hT fr7) j7 hlt1 ((f7 _ _ (by omega) (by omega)).trans h83) (vf_tab ht fr7) ⟨j33, Or.inr ⟨f, c', p, rfl, hc', j122, j123, j124, g4, rfl, hmn.symm, rfl⟩⟩ (Nat.zero_le _) (by omega) hcol (by omega) hbb hks kok (fun e9 I4 col4 u1 uv u2 u3 u4 u5 u6 u7 u8 => ?_) (fun k e9 I4 col4 hbd => badT hlt k (by rw [etf]; rw [Nat.sub_zero] at e9; simp only [Nat.zero_add] at e9; rw [e9]; rfl) I4 col4 ⟨vf_trans (vf_trans vf_refl fr7 (Nat.zero_le _)) hbd.1 (Nat.le_refl _), hbd.2⟩)
            rw [Nat.sub_zero] at e9
            simp only [Nat.zero_add] at e9
            rw [e9] at etf
            have hlen := ls_g_len _ _ _ e9
            have etf : tf (fx (G (r + 7)) m) (F (r + 5)) (F (r + 6)) aT (n + 1) (V cnt) (tm_m (6, pl i, pl (i + 1), pl q', nm (i + 1), nu i) ks) = if ks.length < mn then some (pl q') else none := etf
            have ec : col4 = col := u7 (by omega)
            subst ec
            have frA : vf_fr f I I4 := vf_trans fr7 u1 (by omega)
            have s123 : I4 123 f = ((0 + ks.length : Nat) : Int) := by
              rcases u5.2 with h | ⟨f', c9, P, q1, q2, q3, q4, q5⟩
              · exact absurd h.1 (by omega)
              · have : f' = f := by omega
                subst this
                exact q4
            refine mv_close (c' := c') (cnt' := 0 + ks.length) hB hE (vf_T hT frA) u2 u3 u4 k41 (vf_tab ht frA) hc' u5.1 ((u1 122 f (by unfold vf_ch; omega)).trans j122) s123 hS3 (fun a j a1 a2 a3 => (u1 a j (by unfold vf_ch; omega)).trans (f7 a j (by omega) (by omega))) (by omega) (by omega) hcol (fun hle I5 col5 w1 w0 w2 w3 w4 w5 w6 w7 => ?_) (fun hlt' I5 col5 hbd => ?_)
            · rw [if_neg (by omega)] at etf
              have v45 : ∀ y : Nat, (∀ z : Nat, z < ks.length → ¬ un ((if nwc F r (c' : Int) = true then p else 4 * p + 1) + 0 + z) y) → I5 125 y = I3 125 y := fun y hy => (w0 y).trans ((uv y hy).trans (v7 y))
              refine fin hlt etf I5 col5 (vf_trans frA w1 (Nat.le_refl _)) (fun y hy => (v45 y (fun z hz hu => hy (unp z y (by omega) hu))).trans (fv3 y (fun h => hy (by rw [h]; exact un_refl)))) w2 w3 w4 w5 w6 w7 ?_
              have hv : ls_v (vS (fx (G (r + 7)) m) (nwc F r) (I5 125) n) ((if nwc F r (c' : Int) = true then p else 4 * p + 1) + 0) ks := by
                rw [show I5 125 = I4 125 from funext w0]; exact u8
              refine Or.inr (Or.inr ⟨Or.inr rfl, ?_⟩)
              show nwc F r (fx (G (r + 7)) m (nm (i + 1))) = true ∧ ls_v _ p ks ∨ nwc F r (fx (G (r + 7)) m (nm (i + 1))) = false ∧ I5 125 p = fx (G (r + 7)) m (nm (i + 1)) ∧ ls_v _ (4 * p + 1) ks
              rw [x1]
              cases hb' : nwc F r (c' : Int) with
              | true => rw [hb'] at hv; exact Or.inl ⟨rfl, hv⟩
              | false =>
                rw [hb'] at hv
                refine Or.inr ⟨rfl, ?_, hv⟩
                rw [v45 p (fun z hz hu => ?_)]
                · exact hp3 hb'
                · rw [hb'] at hu; exact un_down (i := z) hu
            · rw [if_pos (by omega)] at etf
              exact badT hlt (pl q') etf I5 col5 ⟨vf_trans (vf_trans vf_refl frA (Nat.zero_le _)) hbd.1 (Nat.le_refl _), hbd.2⟩
          have v2 : ∀ y : Nat, I2 125 y = I 125 y := fun y => (o2 _ _ (by omega)).trans (v1 y)
          have i35 : I2 101 35 = (p : Int) := (o2 _ _ (by omega)).trans g3
          refine ⟨fun n1 => go I2 fr2 (fun y _ => v2 y) (fun h => ?_) i72 i82 i35 S2, fun k1 => ⟨(am_kk hB rfl), 125, (am_rf hB rfl), (am_kk hB rfl), am_nm_k i35 ?_⟩⟩
          · rw [hnwc] at h
            have h' : ¬ F (r + 2) T = 1 := by simpa using h
            omega
          · rintro _ rfl _ _
            exact ⟨_, by decide, (am_kk hB rfl), ⟨by omega, by omega⟩, go (am_u I2 125 p (c' : Int)) (vf_ut fr2 (Or.inr (Or.inr (Or.inr rfl)))) (fun y hy => (am_u_kn hy).trans (v2 y)) (fun _ => am_u_kk) ((am_u_ne (by decide)).trans i72) ((am_u_ne (by decide)).trans i82) ((am_u_ne (by decide)).trans i35) (rS_fr S2 (am_u_ne (by decide)) (fun a j a1 a2 a3 => am_u_ne (by omega)))⟩
        · rw [if_pos hx] at etf
          rintro _ rfl _ _
          refine ⟨fun _ => s_M_meaningOfValues_297 ⟨(am_kk hB rfl), am_nm_k m8 ?_⟩, fun h => absurd h (by decide)⟩
          rintro _ rfl _ _
          exact ⟨fun _ => am_WP.forget (badT hlt _ etf _ col ⟨vf_trans vf_refl fmis (Nat.zero_le _), m8⟩) _ (am_le_eq (am_le_eq (am_le_eq (am_le_o (am_le_o am_le_nil))))), fun h => absurd h (by decide)⟩
      · -- a value that is not there
        subst et
        subst ej
        have hltc : i < c := mt_lt hT hic (by rw [k63]; decide) (by rw [k63]; decide)
        have etf : tf (fx (G (r + 7)) m) (F (r + 5)) (F (r + 6)) aT (n + 1) (V cnt) (tm_m (7, pl i, pl i, pl i, nm i, nu i) []) = none := tf_0 ⟨by decide, by decide, by decide⟩
        refine m_isSign (by unfold tb_sg; decide) hB T1 i7 hic (fun _ => ⟨_, rfl, s_M_meaningOfValues_133 ⟨fun h => absurd h (by decide), fun _ => ⟨(am_kk hB rfl), 125, (am_rf hB rfl), (am_kk hB rfl), am_nm_k g3 ?_⟩⟩⟩) (fun h => absurd k63 h)
        rintro _ rfl _ _
        refine ⟨_, by decide, (am_kk hB rfl), ⟨by omega, by omega⟩, (am_kk hB rfl), leaf (am_u I1 125 p (-2)) (-2) i (vf_ut fr1 (Or.inr (Or.inr (Or.inr rfl)))) (fun y hy => (am_u_kn hy).trans (v1 y)) am_u_kk ((am_u_ne (by decide)).trans i7) (by omega) (rS_fr S1 (am_u_ne (by decide)) (fun a j a1 a2 a3 => am_u_ne (by omega))) (fun I3 col3 q1 q2 q3 q4 q5 q6 q7 q8 => fin hlt etf I3 col3 q1 q2 q4 hltc (q5.trans ((am_u_ne (by decide)).trans i8)) q6 q7 q8 (Or.inl ⟨rfl, q3⟩)) _ _ (fun I3 zz col3 e1 e5 e7 hw => ⟨zz, rfl, s_M_meaningOfValues_152 (am_ar_i (by omega) (by omega) ⟨(am_kk hB rfl), am_nm_k e7 ?_⟩)⟩)⟩
        rintro _ rfl _ _
        rw [e1]
        exact am_ar_i (by omega) (by omega) ⟨⟨by decide, (am_kk hB rfl)⟩, hw⟩
      all_goals exact absurd h5.1 (by decide)
    · -- too many
      have em : many - cnt = 0 := by omega
      have fr1 : vf_fr f I I1 := fun a j g => f1 a j (fun q => g (by unfold vf_ch; omega))
      refine m_mispl hB (vf_T hT fr1) ((f1 _ _ (by omega)).trans h7) hic ((f1 _ _ (by omega)).trans h8) ⟨rfl, s_M_meaningOfValues_124 (bad (tm_at (n + 1) t) (by rw [em]; rfl) _ col ⟨vf_ut (vf_ut (vf_trans vf_refl fr1 (Nat.zero_le _)) (Or.inl ⟨rfl, by omega⟩)) (Or.inl ⟨rfl, by omega⟩), (am_u_kn (by decide)).trans am_u_kk⟩)⟩
theorem mvl_all (hB : am_B K R) (hE : rE F aT W r s N m wd) : ∀ n : Nat, mvl_P d n0 K J R Q kd pl nu nm c s N m wd F G aT W r n := by
  intro n
  induction n with
  | zero => exact mvl_zero
  | succ n ih => exact mvl_step n hB hE ih
end MVS
