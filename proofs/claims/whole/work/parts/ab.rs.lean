/-! WHAT HOLDS BETWEEN THE TWO, of a set -/
section RSD
variable (I J : Nat → Nat → Int) (r s : Nat) (ws : List rw0) (N m wd : Nat) (nmL : Nat → List Int)
def R0 : Prop := Sx I J r s ws N m wd nmL ∧ (∀ w ∈ ws, ∀ t ∈ w.1, pkd 6 t) ∧ sAk (Sa I J r m ws) ws.length I ∧ Md I J r s ws N m wd nmL I J
def Sme (S : Nat → Prop) (K : Nat → Int) : Prop := Sem (Sa I J r m ws) ws.length (twf I r) (vdf m) S K
def Fse (K' : Nat → Int) : Prop := Fst (Sa I J r m ws) ws.length (twf I r) (vdf m) (Sg (rsg ws) ws.length) 60 (fun _ => -1) K'
def Txt (K' : Nat → Int) : List Int := ext (wtx K' I (I (r + 8)) r nmL 6) (I (r + 26)) wd 0
def Ex : Prop := (¬ Sme I J r ws m (Sg (rsg ws) ws.length) (fun _ => -1) ∧ I 101 43 = 0 ∧ xl [] I ∧ (I 31 3 = 0 ∨ I 31 3 = 1)) ∨ (Sme I J r ws m (Sg (rsg ws) ws.length) (fun _ => -1) ∧ I 101 43 = 1 ∧ ∃ K' : Nat → Int, Fse I J r ws m K' ∧ ml (Txt I r wd nmL K') I ∧ (I 31 3 = 0 ∧ xl [] I ∨ I 31 3 = 1 ∧ xl (Txt I r wd nmL K') I))
def Ex1 : Prop := (¬ Sme I J r ws m (Sg (rsg ws) ws.length) (fun _ => -1) ∧ I 101 43 = 0 ∧ xl [] I) ∨ (Sme I J r ws m (Sg (rsg ws) ws.length) (fun _ => -1) ∧ I 101 43 = 1 ∧ ∃ K' : Nat → Int, Fse I J r ws m K' ∧ ml (Txt I r wd nmL K') I ∧ xl (Txt I r wd nmL K') I)
def Nv : Prop := ∀ ρ : Nat, ρ < ws.length → I 129 ρ = -1 ∨ (I 129 ρ = 1 ∧ ¬ Sme I J r ws m (Sg (rsg ws) ρ) (kfl (Sa I J r m ws ρ) (fun _ => -1))) ∨ (I 129 ρ = 0 ∧ Sme I J r ws m (Sg (rsg ws) ρ) (kfl (Sa I J r m ws ρ) (fun _ => -1)))
end RSD
def Rs (I J : Nat → Nat → Int) (r s : Nat) : Prop := ∃ (ws : List rw0) (N m wd : Nat) (nmL : Nat → List Int), R0 I J r s ws N m wd nmL ∧ Ex I J r ws m wd nmL ∧ Nv I J r ws m
/-- what stays of the tables -/
def Rw (r : Nat) (I I' J J' : Nat → Nat → Int) : Prop := (∀ x : Nat, r ≤ x → x ≤ r + 29 → I' x = I x) ∧ (∀ x : Nat, r ≤ x → x ≤ r + 29 → J' x = J x) ∧ (∀ x : Nat, 34 ≤ x → x ≤ 39 → I' x = I x) ∧ (∀ a j : Nat, 107 ≤ a → a ≤ 121 → I' a j = I a j) ∧ J' 110 = J 110
def Rp (r : Nat) (I I' J J' : Nat → Nat → Int) : Prop := (∀ x : Nat, r ≤ x → x ≤ r + 29 → I' x = I x) ∧ ∀ x : Nat, r ≤ x → x ≤ r + 29 → J' x = J x
def Rq (r s : Nat) (I I' J J' : Nat → Nat → Int) : Prop := Rp r I I' J J' ∧ (∀ x : Nat, 34 ≤ x → x ≤ 39 → I' x = I x) ∧ (∀ a j : Nat, 107 ≤ a → a ≤ 121 → mw a * s ≤ j → j < mw a * s + mw a → I' a j = I a j) ∧ ∀ j : Nat, 36 * s ≤ j → j < 36 * s + 36 → J' 110 j = J 110 j
theorem Rq_mk {r s : Nat} {I I' J J' : Nat → Nat → Int} (h : Rw r I I' J J') : Rq r s I I' J J' := ⟨⟨h.1, h.2.1⟩, h.2.2.1, fun a j a1 a2 _ _ => h.2.2.2.1 a j a1 a2, fun j _ _ => by rw [h.2.2.2.2]⟩
section RSF
variable {I I' J J' : Nat → Nat → Int} {r s : Nat} {ws : List rw0} {N m wd : Nat} {nmL : Nat → List Int}
theorem Md_c6 {F F' G G' : Nat → Nat → Int} (e2 : F' (r + 2) = F (r + 2)) (e5 : F' (r + 5) = F (r + 5)) (e6 : F' (r + 6) = F (r + 6)) (e9 : F' (r + 9) = F (r + 9)) (e12 : F' (r + 12) = F (r + 12)) (e27 : F' (r + 27) = F (r + 27)) (j7 : G' (r + 7) = G (r + 7)) (h : Md F G r s ws N m wd nmL I J) : Md F' G' r s ws N m wd nmL I J := by
  unfold Md mtab mc_ok at h ⊢
  rw [e2, e5, e6, e9, e12, e27, j7, nwc_cg e2 e5]
  exact h
theorem Md_cg {F F' G G' : Nat → Nat → Int} (hf : ∀ x : Nat, r ≤ x → x ≤ r + 29 → F' x = F x) (hg : ∀ x : Nat, r ≤ x → x ≤ r + 29 → G' x = G x) (h : Md F G r s ws N m wd nmL I J) : Md F' G' r s ws N m wd nmL I J := Md_c6 (hf _ (by omega) (by omega)) (hf _ (by omega) (by omega)) (hf _ (by omega) (by omega)) (hf _ (by omega) (by omega)) (hf _ (by omega) (by omega)) (hf _ (by omega) (by omega)) (hg _ (by omega) (by omega)) h
theorem mr_rows_sl {cof : Int → Int} {nwf : Int → Bool} {I I' : Nat → Nat → Int} (hf : ∀ a j : Nat, 118 ≤ a → a ≤ 121 → mw a * s ≤ j → j < mw a * s + mw a → I' a j = I a j) : ∀ (vs : List rw0) (k : Nat), k + vs.length ≤ 12 → rs_sz vs ≤ 60 → mr_rows cof nwf s I k vs → mr_rows cof nwf s I' k vs := by
  intro vs
  induction vs with
  | nil => intro k _ _ _; exact trivial
  | cons w vs ih =>
    intro k hk h60 h
    have hk : k + (vs.length + 1) ≤ 12 := hk
    have ez : rs_sz (w :: vs) = rw_sz w + rs_sz vs := rfl
    have hl : (ls_al (al cof nwf 6) 1 w.1).length ≤ rw_sz w := ls_al_len _ _
    have m118 : ∀ j : Nat, 12 * s ≤ j → j < 12 * s + 12 → I' 118 j = I 118 j := fun j a1 a2 => hf 118 j (by decide) (by decide) a1 a2
    have m119 : ∀ j : Nat, 12 * s ≤ j → j < 12 * s + 12 → I' 119 j = I 119 j := fun j a1 a2 => hf 119 j (by decide) (by decide) a1 a2
    have m120 : ∀ j : Nat, 1800 * s ≤ j → j < 1800 * s + 1800 → I' 120 j = I 120 j := fun j a1 a2 => hf 120 j (by decide) (by decide) a1 a2
    have m121 : ∀ j : Nat, 1800 * s ≤ j → j < 1800 * s + 1800 → I' 121 j = I 121 j := fun j a1 a2 => hf 121 j (by decide) (by decide) a1 a2
    refine ⟨(m118 _ (by omega) (by omega)).trans h.1, ⟨(m119 _ (by omega) (by omega)).trans h.2.1.1, lsa_fr _ 0 h.2.1.2 (fun a j ha h1 h2 => ?_)⟩, ih (k + 1) (by omega) (by omega) h.2.2⟩
    rcases ha with e | e
    · subst e; exact m120 j (by omega) (by omega)
    · subst e; exact m121 j (by omega) (by omega)
theorem Md_sl {F G : Nat → Nat → Int} (hS : Sx F G r s ws N m wd nmL) (hf : ∀ a j : Nat, 107 ≤ a → a ≤ 121 → mw a * s ≤ j → j < mw a * s + mw a → I' a j = I a j) (hj : ∀ j : Nat, 36 * s ≤ j → j < 36 * s + 36 → J' 110 j = J 110 j) (h : Md F G r s ws N m wd nmL I J) : Md F G r s ws N m wd nmL I' J' := by
  obtain ⟨hr, hE, hTy, w1, l0, l12, h60, -⟩ := hS
  have m36 := hE.2.2.1
  have wd4 := hE.2.2.2.1
  obtain ⟨⟨h1, h2, h3, h4, h5, h6⟩, h7, h8, h9⟩ := h
  have m107 : ∀ j : Nat, 26 * s ≤ j → j < 26 * s + 26 → I' 107 j = I 107 j := fun j a1 a2 => hf 107 j (by decide) (by decide) a1 a2
  have m108 : ∀ j : Nat, 1 * s ≤ j → j < 1 * s + 1 → I' 108 j = I 108 j := fun j a1 a2 => hf 108 j (by decide) (by decide) a1 a2
  have m109 : ∀ j : Nat, 1 * s ≤ j → j < 1 * s + 1 → I' 109 j = I 109 j := fun j a1 a2 => hf 109 j (by decide) (by decide) a1 a2
  have m111 : ∀ j : Nat, 36 * s ≤ j → j < 36 * s + 36 → I' 111 j = I 111 j := fun j a1 a2 => hf 111 j (by decide) (by decide) a1 a2
  have m112 : ∀ j : Nat, 36 * s ≤ j → j < 36 * s + 36 → I' 112 j = I 112 j := fun j a1 a2 => hf 112 j (by decide) (by decide) a1 a2
  have m113 : ∀ j : Nat, 108 * s ≤ j → j < 108 * s + 108 → I' 113 j = I 113 j := fun j a1 a2 => hf 113 j (by decide) (by decide) a1 a2
  have m114 : ∀ j : Nat, 1 * s ≤ j → j < 1 * s + 1 → I' 114 j = I 114 j := fun j a1 a2 => hf 114 j (by decide) (by decide) a1 a2
  have m115 : ∀ j : Nat, 4 * s ≤ j → j < 4 * s + 4 → I' 115 j = I 115 j := fun j a1 a2 => hf 115 j (by decide) (by decide) a1 a2
  have m116 : ∀ j : Nat, 1 * s ≤ j → j < 1 * s + 1 → I' 116 j = I 116 j := fun j a1 a2 => hf 116 j (by decide) (by decide) a1 a2
  refine ⟨⟨(m108 s (by omega) (by omega)).trans h1, (m109 s (by omega) (by omega)).trans h2, (m114 s (by omega) (by omega)).trans h3, fun z hz => (m115 _ (by omega) (by omega)).trans (h4 z hz), fun l hl => (m107 _ (by omega) (by omega)).trans (h5 l hl), fun c hc => ?_⟩, mr_rows_sl (fun a j a1 a2 a3 a4 => hf a j (by omega) a2 a3 a4) ws 0 (by omega) h60 h7, (m116 s (by omega) (by omega)).trans h8, fun c hc => (hj _ (by omega) (by omega)).trans (h9 c hc)⟩
  obtain ⟨c1, c2, c3, c4⟩ := h6 c hc
  refine ⟨(m111 _ (by omega) (by omega)).trans c1, (m112 _ (by omega) (by omega)).trans c2, fun z z1 z2 => (m113 _ (by omega) (by omega)).trans (c3 z z1 z2), ?_⟩
  rw [hj _ (by omega) (by omega)]; exact c4
theorem R0_fr (hq : Rq r s I I' J J') (h : R0 I J r s ws N m wd nmL) : R0 I' J' r s ws N m wd nmL := by
  obtain ⟨⟨q1, q2⟩, q3, q4, q5⟩ := hq
  obtain ⟨h1, h2, ⟨ns, h3, h4⟩, h5⟩ := h
  refine ⟨Sx_fr q1 q2 h1, h2, ⟨ns, ?_, ?_⟩, Md_cg q1 q2 (Md_sl h1 q4 q5 h5)⟩
  · rw [Sa_cg (q1 _ (by omega) (by omega)) (q1 _ (by omega) (by omega)) (q2 _ (by omega) (by omega))]
    exact xaC_fr h3 (fun x a1 a2 _ => q3 x a1 a2)
  · rw [Sa_cg (q1 _ (by omega) (by omega)) (q1 _ (by omega) (by omega)) (q2 _ (by omega) (by omega)), q3 38 (by decide) (by decide)]
    exact h4
theorem Sme_cg (hq : Rp r I I' J J') {S : Nat → Prop} {K : Nat → Int} : Sme I' J' r ws m S K = Sme I J r ws m S K := by
  obtain ⟨q1, q2⟩ := hq
  unfold Sme
  rw [Sa_cg (q1 _ (by omega) (by omega)) (q1 _ (by omega) (by omega)) (q2 _ (by omega) (by omega)), twf_cg (q1 _ (by omega) (by omega))]
theorem Fse_cg (hq : Rp r I I' J J') {K : Nat → Int} : Fse I' J' r ws m K = Fse I J r ws m K := by
  obtain ⟨q1, q2⟩ := hq
  unfold Fse
  rw [Sa_cg (q1 _ (by omega) (by omega)) (q1 _ (by omega) (by omega)) (q2 _ (by omega) (by omega)), twf_cg (q1 _ (by omega) (by omega))]
theorem Txt_cg (hq : Rp r I I' J J') {K : Nat → Int} : Txt I' r wd nmL K = Txt I r wd nmL K := by
  obtain ⟨q1, q2⟩ := hq
  unfold Txt
  rw [q1 (r + 8) (by omega) (by omega), q1 (r + 26) (by omega) (by omega), wtx_cg (q1 _ (by omega) (by omega)) (q1 _ (by omega) (by omega)) (q1 _ (by omega) (by omega)) 6]
theorem Sa_rq (hq : Rp r I I' J J') : Sa I' J' r m ws = Sa I J r m ws := Sa_cg (hq.1 _ (by omega) (by omega)) (hq.1 _ (by omega) (by omega)) (hq.2 _ (by omega) (by omega))
theorem Nv_fr (hq : Rq r s I I' J J') (h9 : I' 129 = I 129) (h : Nv I J r ws m) : Nv I' J' r ws m := by
  intro ρ hρ
  rw [Sme_cg hq.1, Sa_rq hq.1, h9]
  exact h ρ hρ
theorem xl_cg {L : List Int} (h2 : I' 32 0 = I 32 0) (h3 : I' 33 = I 33) (h : xl L I) : xl L I' := ⟨h2.trans h.1, by rw [h3]; exact h.2⟩
theorem ml_cg {L : List Int} (h2 : I' 101 54 = I 101 54) (h3 : I' 135 = I 135) (h : ml L I) : ml L I' := ⟨h2.trans h.1, by rw [h3]; exact h.2⟩
theorem Ex_fr (hq : Rq r s I I' J J') (h43 : I' 101 43 = I 101 43) (h54 : I' 101 54 = I 101 54) (h135 : I' 135 = I 135) (h31 : I' 31 3 = I 31 3) (h32 : I' 32 0 = I 32 0) (h33 : I' 33 = I 33) (h : Ex I J r ws m wd nmL) : Ex I' J' r ws m wd nmL := by
  unfold Ex
  rw [Sme_cg hq.1, h43, h31]
  rcases h with ⟨a1, a2, a3, a4⟩ | ⟨a1, a2, K', a3, a4, a5⟩
  · exact Or.inl ⟨a1, a2, xl_cg h32 h33 a3, a4⟩
  · refine Or.inr ⟨a1, a2, K', by rw [Fse_cg hq.1]; exact a3, by rw [Txt_cg hq.1]; exact ml_cg h54 h135 a4, ?_⟩
    rw [Txt_cg hq.1]
    rcases a5 with ⟨b1, b2⟩ | ⟨b1, b2⟩
    · exact Or.inl ⟨b1, xl_cg h32 h33 b2⟩
    · exact Or.inr ⟨b1, xl_cg h32 h33 b2⟩
theorem Ex1_fr (hq : Rq r s I I' J J') (h43 : I' 101 43 = I 101 43) (h54 : I' 101 54 = I 101 54) (h135 : I' 135 = I 135) (h32 : I' 32 0 = I 32 0) (h33 : I' 33 = I 33) (h : Ex1 I J r ws m wd nmL) : Ex1 I' J' r ws m wd nmL := by
  unfold Ex1
  rw [Sme_cg hq.1, h43]
  rcases h with ⟨a1, a2, a3⟩ | ⟨a1, a2, K', a3, a4, a5⟩
  · exact Or.inl ⟨a1, a2, xl_cg h32 h33 a3⟩
  · refine Or.inr ⟨a1, a2, K', by rw [Fse_cg hq.1]; exact a3, by rw [Txt_cg hq.1]; exact ml_cg h54 h135 a4, by rw [Txt_cg hq.1]; exact xl_cg h32 h33 a5⟩
theorem Ex_of1 (h31 : I 31 3 = 1) (h : Ex1 I J r ws m wd nmL) : Ex I J r ws m wd nmL := by
  rcases h with ⟨a1, a2, a3⟩ | ⟨a1, a2, K', a3, a4, a5⟩
  · exact Or.inl ⟨a1, a2, a3, Or.inr h31⟩
  · exact Or.inr ⟨a1, a2, K', a3, a4, Or.inr ⟨h31, a5⟩⟩
end RSF
theorem Rs_hRs : am_hRs Rs := by
  rintro I I' J r s hf ⟨ws, N, m, wd, nmL, h0, h1, h2⟩
  have hr := h0.1.1
  have e : ∀ a : Nat, a ≠ 13 → a ≠ 14 → a ≠ 101 → a ≠ 102 → I' a = I a := fun a g1 g2 g3 g4 => funext fun j => hf a j (by omega) g2 (by omega) g4
  have hq : Rq r s I I' J J := Rq_mk ⟨fun x a1 a2 => e x (by omega) (by omega) (by omega) (by omega), fun _ _ _ => rfl, fun x a1 a2 => e x (by omega) (by omega) (by omega) (by omega), fun a j a1 a2 => hf a j (by omega) (by omega) (by omega) (by omega), rfl⟩
  exact ⟨ws, N, m, wd, nmL, R0_fr hq h0, Ex_fr hq (hf _ _ (by decide) (by decide) (by decide) (by decide)) (hf _ _ (by decide) (by decide) (by decide) (by decide)) (e _ (by decide) (by decide) (by decide) (by decide)) (hf _ _ (by decide) (by decide) (by decide) (by decide)) (hf _ _ (by decide) (by decide) (by decide) (by decide)) (e _ (by decide) (by decide) (by decide) (by decide)) h1, Nv_fr hq (e _ (by decide) (by decide) (by decide) (by decide)) h2⟩
/-- what the calls that search may change -/
def sc_fr (I I' : Nat → Nat → Int) : Prop := ∀ a j : Nat, ¬ (31 ≤ a ∧ a ≤ 40) → ¬ (a = 101 ∧ (j = 43 ∨ j = 47 ∨ j = 50 ∨ j = 54 ∨ j = 57)) → ¬ (128 ≤ a ∧ a ≤ 137) → I' a j = I a j
section IVF
variable {L : Nat} {xs : Nat → Int} {n : Nat} {K : Nat → am_K} {I I' J : Nat → Nat → Int} {R : Nat → Nat → Option Nat}
theorem bs_fr (h : am_bs L xs (n, K, I, J, R)) (hf : ∀ a j : Nat, a < 11 → I' a j = I a j) : am_bs L xs (n, K, I', J, R) := ⟨h.1, h.2.1, fun a j ha => (hf a j ha).trans (h.2.2 a j ha)⟩
theorem Tp_fr (h : am_Tp I) (h1 : I' 13 1 = I 13 1) (h2 : I' 101 1 = I 101 1) (h3 : I' 14 = I 14) (h4 : I' 102 = I 102) : am_Tp I' := by
  unfold am_Tp
  rw [h1, h2, h3, h4]; exact h
theorem Cn_fr {r s : Nat} (hr : r = 41 ∨ r = 71) (h : am_Cn I r s) (hf : ∀ a j : Nat, (r ≤ a ∧ a ≤ r + 15) ∨ (108 ≤ a ∧ a ≤ 117) → I' a j = I a j) : am_Cn I' r s := by
  unfold am_Cn
  rw [hf (r + 1) 0 (by omega), hf (r + 1) 1 (by omega), hf r 2 (by omega), hf r 3 (by omega), hf (r + 15) 0 (by omega), hf 108 s (by omega), hf 109 s (by omega), hf 114 s (by omega), hf 116 s (by omega), hf 117 s (by omega)]
  exact h
theorem Lk_fr (h : am_Lk I) (h1 : I' 29 0 = I 29 0) (h2 : I' 101 40 = I 101 40) (h3 : I' 30 = I 30) (h4 : I' 127 = I 127) : am_Lk I' := by
  unfold am_Lk
  rw [h1, h2, h3, h4]; exact h
theorem Iv_sc (hI : am_Iv Rs L xs (n, K, I, J, R)) (hf : sc_fr I I') (hR : ∀ r s : Nat, R 11 4 = some r → s < 2 → I 101 14 = (s : Int) → Rs I J r s → Rs I' J r s) : am_Iv Rs L xs (n, K, I', J, R) := by
  obtain ⟨hb, hT, hp, r, r', h4, h5, hrr, hc⟩ := hI
  have e : ∀ a : Nat, ¬ (31 ≤ a ∧ a ≤ 40) → a ≠ 101 → ¬ (128 ≤ a ∧ a ≤ 137) → I' a = I a := fun a g1 g2 g3 => funext fun j => hf a j g1 (by omega) g3
  refine ⟨bs_fr hb (fun a j ha => hf a j (by omega) (by omega) (by omega)), Tp_fr hT (hf _ _ (by decide) (by decide) (by decide)) (hf _ _ (by decide) (by decide) (by decide)) (e _ (by decide) (by decide) (by decide)) (e _ (by decide) (by decide) (by decide)), ?_, r, r', h4, h5, hrr, ?_⟩
  · exact (hf 11 7 (by decide) (by decide) (by decide)).trans (hp.trans (hf 101 2 (by decide) (by decide) (by decide)).symm)
  · replace hc : I 11 6 = 0 ∧ I 101 14 = -1 ∨ I 11 6 = 1 ∧ ∃ s : Nat, s < 2 ∧ I 101 14 = (s : Int) ∧ am_Cn I r s ∧ am_Lk I ∧ Rs I J r s := hc
    show I' 11 6 = 0 ∧ I' 101 14 = -1 ∨ I' 11 6 = 1 ∧ ∃ s : Nat, s < 2 ∧ I' 101 14 = (s : Int) ∧ am_Cn I' r s ∧ am_Lk I' ∧ Rs I' J r s
    rw [hf 11 6 (by decide) (by decide) (by decide), hf 101 14 (by decide) (by decide) (by decide)]
    rcases hc with hc | ⟨h6, s, hs, h14, hC, hL, hR0⟩
    · exact Or.inl hc
    · exact Or.inr ⟨h6, s, hs, h14, Cn_fr (hrr.imp And.left And.left) hC (fun a j ha => hf a j (by omega) (by omega) (by omega)), Lk_fr hL (hf _ _ (by decide) (by decide) (by decide)) (hf _ _ (by decide) (by decide) (by decide)) (e _ (by decide) (by decide) (by decide)) (e _ (by decide) (by decide) (by decide)), hR r s h4 hs h14 hR0⟩
end IVF
