/-! MEANING: the reference's rows, all of them -/
theorem ft_sp_at {kd pl nu nm : Nat → Int} {v : Bool} : ∀ (n i j : Nat) (t : tm n), ft_sp kd pl nu nm v n i t j → tm_at n t = pl i := by
  intro n i j t h
  cases n with
  | zero => exact h.elim
  | succ n =>
    rcases h with ⟨_, e, _⟩ | ⟨_, e, _⟩ | ⟨_, _, ks, q, _, _, _, e, _⟩ | ⟨_, _, e, _⟩ | ⟨_, _, t', _, e⟩ | ⟨_, _, t', _, e⟩ | ⟨_, _, _, t', _, e⟩ | ⟨_, _, _, e, _⟩ | ⟨_, _, e, _⟩ <;> rw [e] <;> rfl
theorem ls_g_nil {T : Type} {f : Int → T → Option Int} {at' : T → Int} {W : Nat → Int} {m : Nat} : ls_g f at' W m [] = none := by cases m <;> rfl
theorem al_len {cof : Int → Int} {nwf : Int → Bool} : ∀ (n p : Nat) (t : tm n), (al cof nwf n p t).length ≤ tm_sz n t := by
  have ls : ∀ n : Nat, (∀ (p : Nat) (t : tm n), (al cof nwf n p t).length ≤ tm_sz n t) → ∀ (ts : List (tm n)) (p : Nat), (ls_al (al cof nwf n) p ts).length ≤ ls_sz (tm_sz n) ts := by
    intro n h ts
    induction ts with
    | nil => intro p; exact Nat.le_refl _
    | cons t ts ih =>
      intro p
      show (al cof nwf n p t ++ ls_al (al cof nwf n) (p + 1) ts).length ≤ tm_sz n t + ls_sz (tm_sz n) ts
      rw [List.length_append]
      have := h p t
      have := ih (p + 1)
      omega
  intro n
  induction n with
  | zero => intro p t; exact Nat.le_refl _
  | succ n ih =>
    intro p t
    have ez : tm_sz (n + 1) t = 1 + ls_sz (tm_sz n) (tm_k t) := rfl
    have h1 := ls n ih (tm_k t) p
    have h2 := ls n ih (tm_k t) (4 * p + 1)
    unfold al
    split
    · simp only [List.length_cons]; omega
    · split
      · omega
      · split
        · simp only [List.length_cons, List.length_nil]; omega
        · split
          · split
            · omega
            · simp only [List.length_cons]; omega
          · simp
theorem ls_al_len {cof : Int → Int} {nwf : Int → Bool} {n : Nat} : ∀ (ts : List (tm n)) (p : Nat), (ls_al (al cof nwf n) p ts).length ≤ ls_sz (tm_sz n) ts := by
  intro ts
  induction ts with
  | nil => intro p; exact Nat.le_refl _
  | cons t ts ih =>
    intro p
    show (al cof nwf n p t ++ ls_al (al cof nwf n) (p + 1) ts).length ≤ tm_sz n t + ls_sz (tm_sz n) ts
    rw [List.length_append]
    have := al_len (cof := cof) (nwf := nwf) n p t
    have := ih (p + 1)
    omega
section ML
variable {d n0 : Nat} {K : Nat → am_K} {J : Nat → Nat → Int} {R : Nat → Nat → Option Nat} {Q : am_Q} {kd pl nu nm : Nat → Int} {c s ρ : Nat} {N m wd : Nat} {F G : Nat → Nat → Int} {aT W : Nat → Int} {r : Nat}
theorem ml_of (n : Nat) (hB : am_B K R) (hE : rE F aT W r s N m wd) (hρ : ρ < 12) (hP : mp_P d n0 K J R Q kd pl nu nm c s ρ N m wd F G aT W r n) : ml_P d n0 K J R Q kd pl nu nm c s ρ N m wd F G aT W r n := by
  intro ts
  induction ts with
  | nil =>
    intro i j f cnt col many base V lz A I hT h7 hic h8 ht hS hcnt hm4 hcol hfn hlz hA hA60 hsp ok bad
    have e : i = j := hsp
    subst e
    refine ok ls_g_nil I col rf_refl h7 hic h8 hS hcol (fun _ => rfl) hlz (fun _ => rfl) ?_
    show acS I (12 * s + ρ) (A ++ (if lz = true then [] else []))
    rw [ite_self, List.append_nil]; exact hA
  | cons t ts ih =>
    intro i j f cnt col many base V lz A I hT h7 hic h8 ht hS hcnt hm4 hcol hfn hlz hA hA60 hsp ok bad
    obtain ⟨q, ht', hrest⟩ := hsp
    have ez : ls_sz (tm_sz n) (t :: ts) = tm_sz n t + ls_sz (tm_sz n) ts := rfl
    have hbg := ft_sp_bg ht'
    have n59 : kd i ≠ 59 := fun h => absurd hbg (by rw [h]; exact ft_le_nb (Or.inr (Or.inl rfl)))
    have n9 : kd i ≠ 9 := fun h => absurd hbg (by rw [h]; exact ft_le_nb (Or.inr (Or.inr (Or.inl rfl))))
    have n41 : kd i ≠ 41 := fun h => absurd hbg (by rw [h]; exact ft_le_nb (Or.inl rfl))
    have fwt : ∀ I' : Nat → Nat → Int, (∀ a j : Nat, ¬ (a = 101 ∧ (j = 34 ∨ j = 35)) → I' a j = I a j) → rf_fr (12 * s + ρ) f I I' := fun I' h a j g => h a j (fun q => g (by unfold rf_ch; omega))
    have r90 : am_WP (d + 5) (44, 90, [.inr (.inl 101), .inl (s : Int), .inl (ρ : Int), .inl (col : Int), .inl 1, am_o], [], (0, 0), n0, K, I, J, R) Q := by
      refine s_M_meaningOfRow_90 ⟨(am_kk hB rfl), m_isSign (by unfold tb_sg; decide) hB hT h7 hic (fun h => absurd h n41) (fun _ => ⟨_, rfl, s_M_meaningOfRow_96 ⟨fun _ => ⟨(am_kk hB rfl), m_want hB hE ht hS (by omega) (by omega) (fun hlt I1 l f1 g1 g2 g3 g4 => ⟨_, rfl, s_M_meaningOfRow_243 ⟨fun _ => ⟨(am_kk hB rfl), e_M_meaningOfPat ⟨(am_kk hB rfl), am_nm_k ((f1 _ _ (by omega)).trans hlz.1) ?_⟩⟩, fun h => absurd h (by decide)⟩⟩) (fun hge I1 f1 => ⟨_, rfl, s_M_meaningOfRow_243 ⟨fun h => absurd rfl h, fun _ => ⟨(am_kk hB rfl), m_mispl hB (mt_mm hT (rf_mm (J := J) (fwt I1 f1) hρ)) ((f1 _ _ (by omega)).trans h7) hic ((f1 _ _ (by omega)).trans h8) ⟨rfl, s_M_meaningOfRow_250 ?_⟩⟩⟩⟩)⟩, fun h => absurd rfl h⟩⟩)⟩
      · obtain ⟨z, hz⟩ : ∃ z, many - cnt = z + 1 := ⟨many - cnt - 1, by omega⟩
        have eg : ls_g (tf (fx (G (r + 7)) m) (F (r + 5)) (F (r + 6)) aT n) (tm_at n) (fun z => V (cnt + z)) (many - cnt) (t :: ts) = oe (tf (fx (G (r + 7)) m) (F (r + 5)) (F (r + 6)) aT n (V cnt) t) (ls_g (tf (fx (G (r + 7)) m) (F (r + 5)) (F (r + 6)) aT n) (tm_at n) (fun z => V (cnt + 1 + z)) (many - (cnt + 1)) ts) := by
          rw [hz, show many - (cnt + 1) = z by omega]
          show oe (tf _ _ _ _ n (V (cnt + 0)) t) (ls_g _ _ (fun i => V (cnt + (i + 1))) z ts) = _
          rw [show (fun i => V (cnt + (i + 1))) = (fun z => V (cnt + 1 + z)) from funext fun i => by rw [show cnt + (i + 1) = cnt + 1 + i by omega]]
          rfl
        rintro _ rfl _ _
        have fr1 := fwt I1 f1
        refine hP t i q f cnt col many base (base + cnt) V l (V cnt) lz lz A I1 (mt_mm hT (rf_mm (J := J) fr1 hρ)) ((f1 _ _ (by omega)).trans h7) hic ((f1 _ _ (by omega)).trans h8) (rf_tab ht fr1) (rS_fr hS (f1 _ _ (by omega)) (fun a j a1 a2 a3 => f1 a j (by omega))) hlt hm4 hcol (by omega) g1 g2 g3 g4 ⟨(f1 _ _ (by omega)).trans hlz.1, fun h => ⟨h, by rw [f1 _ _ (by omega)]; exact hlz.2 h⟩, fun h h' => absurd (h.symm.trans h') (by decide)⟩ (acS_fr hA (fun a j a1 a2 => f1 a j (by omega))) (by omega) ht' (fun e9 I2 col2 p1 p2 p3 p4 p5 p6 p7 p8 pK p9 => ?_) (fun k e9 I2 col2 hb => bad k (by rw [eg, e9]; rfl) I2 col2 (rbad_t fr1 hb (Nat.le_refl _)))
        rw [e9] at eg
        have eg : ls_g (tf (fx (G (r + 7)) m) (F (r + 5)) (F (r + 6)) aT n) (tm_at n) (fun z => V (cnt + z)) (many - cnt) (t :: ts) = ls_g (tf (fx (G (r + 7)) m) (F (r + 5)) (F (r + 6)) aT n) (tm_at n) (fun z => V (cnt + 1 + z)) (many - (cnt + 1)) ts := eg
        have fr2 := rf_trans fr1 p1 (Nat.le_refl _)
        have c4 : col2 ≤ 4 := by
          by_cases h0 : f = 0
          · have := p5.2
            rcases this with h | ⟨f', _, _, h, _⟩
            · have hw4 := hE.2.2.2.1
              omega
            · omega
          · rw [p7 h0]; exact hcol
        have lA : (A ++ (if lz = true then [] else al (fx (G (r + 7)) m) (nwc F r) n (base + cnt) t)).length + ls_sz (tm_sz n) ts ≤ 60 := by
          have := al_len (cof := fx (G (r + 7)) m) (nwf := nwc F r) n (base + cnt) t
          rw [List.length_append]
          by_cases hz : lz = true
          · rw [if_pos hz]; simp; omega
          · rw [if_neg hz]; omega
        refine ih q j f (cnt + 1) col2 many base V lz _ I2 (mt_mm hT (rf_mm (J := J) fr2 hρ)) p2 p3 p4 (rf_tab ht fr2) p5 (by omega) hm4 c4 hfn p8 p9 lA hrest (fun e10 I3 col3 u1 u2 u3 u4 u5 u6 u7 u8 uK u9 => ok (eg.trans e10) I3 col3 (rf_trans fr2 u1 (Nat.le_refl _)) u2 u3 u4 ?_ u6 (fun h0 => (u7 h0).trans (p7 h0)) u8 (fun hz => ((uK hz).trans (pK hz)).trans (f1 _ _ (by omega))) ?_) (fun k e10 I3 col3 hb => bad k (eg.trans e10) I3 col3 (rbad_t fr2 hb (Nat.le_refl _)))
        · rw [show cnt + (t :: ts).length = cnt + 1 + ts.length by show cnt + (ts.length + 1) = _; omega]; exact u5
        · have eA : A ++ (if lz = true then [] else al (fx (G (r + 7)) m) (nwc F r) n (base + cnt) t) ++ (if lz = true then [] else ls_al (al (fx (G (r + 7)) m) (nwc F r) n) (base + (cnt + 1)) ts) = A ++ (if lz = true then [] else ls_al (al (fx (G (r + 7)) m) (nwc F r) n) (base + cnt) (t :: ts)) := by
            cases lz with
            | true => simp
            | false =>
              show A ++ al _ _ n (base + cnt) t ++ ls_al _ (base + cnt + 1) ts = A ++ (al _ _ n (base + cnt) t ++ ls_al _ (base + cnt + 1) ts)
              rw [List.append_assoc]
          rw [eA] at u9
          exact u9
      · have em : many - cnt = 0 := by omega
        refine bad (pl i) (by rw [em]; show some (tm_at n t) = _; rw [ft_sp_at n i q t ht']) _ col ⟨rf_ut (rf_ut (fwt I1 f1) (rf_101 (by omega))) (rf_101 (by omega)), (am_u_kn (by decide)).trans am_u_kk, am_u_kk, ?_, ?_⟩
        · rw [am_u_kn (by decide), am_u_kn (by decide), f1 _ _ (by omega), h7]; omega
        · have := hT.2.1
          rw [am_u_kn (by decide), am_u_kn (by decide), f1 _ _ (by omega), h7]; omega
    refine s_M_meaningOfRow_46 ⟨fun h => absurd h (by decide), fun _ => ⟨(am_kk hB rfl), am_nm_k h8 ?_⟩⟩
    rintro _ rfl _ _
    refine ⟨fun h => absurd rfl h, fun _ => ⟨(am_kk hB rfl), am_nm_k hS.1 ?_⟩⟩
    rintro _ rfl _ _
    exact ⟨fun _ => r90, fun _ => ⟨(am_kk hB rfl), m_isSign (by unfold tb_sg; decide) hB hT h7 hic (fun h => absurd h n59) (fun _ => ⟨_, rfl, s_M_meaningOfRow_71 ⟨fun h => absurd rfl h, fun _ => ⟨(am_kk hB rfl), m_isWord (Or.inr (Or.inr (Or.inr ⟨rfl, rfl⟩))) hB hT h7 hic (fun h => absurd h n9) (fun _ => ⟨_, rfl, s_M_meaningOfRow_81 ⟨fun _ => r90, fun h => absurd rfl h⟩⟩)⟩⟩⟩)⟩⟩
end ML
