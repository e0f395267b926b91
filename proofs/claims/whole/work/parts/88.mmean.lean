/-! MEANING: the reference names types -/
section MI
variable {d n : Nat} {K : Nat → am_K} {J : Nat → Nat → Int} {R : Nat → Nat → Option Nat} {Q : am_Q} {kd pl nu nm : Nat → Int} {c s : Nat} {g nw : Nat → Int}
theorem mi_init {I : Nat → Nat → Int} (hB : am_B K R) (hs : s < 2) (post : ∀ I' : Nat → Nat → Int, mm_fr s I I' J J → (∀ j : Nat, I' 101 j = I 101 j) → (∀ l : Nat, l < 26 → I' 107 (26 * s + l) = kx g nw 0 (l : Int)) → I' 108 s = 0 → I' 109 s = 0 → I' 114 s = 0 → I' 116 s = 0 → I' 117 s = I 101 10 → am_WP (d + 6) (39, 76, [.inr (.inl 101), .inl (s : Int), .inl 0, am_o], [], (0, 0), n, K, I', J, R) Q) : am_WP (d + 6) (am_entry 39 [.inr (.inl 101), .inl (s : Int)] (n, K, I, J, R)) Q := by
  have loop : ∀ (u t : Nat) (I' : Nat → Nat → Int), t + u = 26 → (∀ a j : Nat, ¬ (a = 107 ∧ 26 * s ≤ j ∧ j < 26 * s + 26) → I' a j = I a j) → (∀ l : Nat, l < t → I' 107 (26 * s + l) = kx g nw 0 (l : Int)) → am_WP (d + 6) (39, 2, [.inr (.inl 101), .inl (s : Int), .inl (t : Int), am_o], [], (0, 0), n, K, I', J, R) Q := by
    intro u
    induction u with
    | zero =>
      intro t I' hu hf hL
      have ix : (0 : Int) ≤ (s : Int) ∧ (s : Int) < ((2 : Nat) : Int) := ⟨by omega, by omega⟩
      have e10 : am_u (am_u (am_u (am_u I' 108 s 0) 109 s 0) 114 s 0) 116 s 0 101 10 = I 101 10 := by rw [am_u_ne (by decide), am_u_ne (by decide), am_u_ne (by decide), am_u_ne (by decide), hf _ _ (by omega)]
      refine s_M_meaningOfSet_2 ⟨fun _ => ⟨(am_kk hB rfl), 108, (am_rf hB rfl), _, by decide, (am_kk hB rfl), ix, (am_kk hB rfl), 109, (am_rf hB rfl), _, by decide, (am_kk hB rfl), ix, (am_kk hB rfl), 114, (am_rf hB rfl), _, by decide, (am_kk hB rfl), ix, (am_kk hB rfl), 116, (am_rf hB rfl), _, by decide, (am_kk hB rfl), ix, (am_kk hB rfl), 117, (am_rf hB rfl), (am_kk hB rfl), am_nm_k e10 ?_⟩, fun h => absurd h (by omega)⟩
      rintro _ rfl _ _
      refine ⟨_, by decide, (am_kk hB rfl), ix, post _ ?_ (fun j => ?_) (fun l hl => ?_) ?_ ?_ ?_ ?_ am_u_kk⟩
      · have f0 : mm_fr s I I' J J := ⟨fun a j h => hf a j (fun q => h (by rw [q.1]; exact mm_tb ⟨by decide, by decide⟩ q.2.1 q.2.2)), fun _ _ _ => rfl⟩
        refine mm_ut (mm_ut (mm_ut (mm_ut (mm_ut f0 ?_) ?_) ?_) ?_) ?_ <;> exact mm_tb ⟨by decide, by decide⟩ (by show 1 * s ≤ s; omega) (by show s < 1 * s + 1; omega)
      · show am_u (am_u (am_u (am_u (am_u I' 108 s 0) 109 s 0) 114 s 0) 116 s 0) 117 s (I 101 10) 101 j = _
        rw [am_u_ne (by decide), am_u_ne (by decide), am_u_ne (by decide), am_u_ne (by decide), am_u_ne (by decide), hf _ _ (by omega)]
      · show am_u (am_u (am_u (am_u (am_u I' 108 s 0) 109 s 0) 114 s 0) 116 s 0) 117 s (I 101 10) 107 _ = _
        rw [am_u_ne (by decide), am_u_ne (by decide), am_u_ne (by decide), am_u_ne (by decide), am_u_ne (by decide)]
        exact hL l (by omega)
      · show am_u (am_u (am_u (am_u (am_u I' 108 s 0) 109 s 0) 114 s 0) 116 s 0) 117 s (I 101 10) 108 s = _
        rw [am_u_ne (by decide), am_u_ne (by decide), am_u_ne (by decide), am_u_ne (by decide), am_u_kk]
      · show am_u (am_u (am_u (am_u (am_u I' 108 s 0) 109 s 0) 114 s 0) 116 s 0) 117 s (I 101 10) 109 s = _
        rw [am_u_ne (by decide), am_u_ne (by decide), am_u_ne (by decide), am_u_kk]
      · show am_u (am_u (am_u (am_u (am_u I' 108 s 0) 109 s 0) 114 s 0) 116 s 0) 117 s (I 101 10) 114 s = _
        rw [am_u_ne (by decide), am_u_ne (by decide), am_u_kk]
      · show am_u (am_u (am_u (am_u (am_u I' 108 s 0) 109 s 0) 114 s 0) 116 s 0) 117 s (I 101 10) 116 s = _
        rw [am_u_ne (by decide), am_u_kk]
    | succ u ih =>
      intro t I' hu hf hL
      have go : ∀ v : Int, v = kx g nw 0 (t : Int) → am_WP (d + 6) (39, 29, [.inr (.inl 101), .inl (s : Int), .inl (t : Int), am_o], [.inl v, .inl ((26 * s + t : Nat) : Int), .inr (.inl 107)], (0, 0), n, K, I', J, R) Q := by
        intro v hv
        refine s_M_meaningOfSet_29 ⟨_, by decide, (am_kk hB rfl), ⟨by omega, by omega⟩, am_ar_i (by omega) (by omega) (ih (t + 1) _ (by omega) (fun a j h => ?_) (fun l hl => ?_))⟩
        · show am_u I' 107 (26 * s + t) v a j = _
          rw [am_u_off (by omega)]; exact hf a j h
        · show am_u I' 107 (26 * s + t) v 107 (26 * s + l) = _
          by_cases e : l = t
          · subst e; rw [am_u_kk]; exact hv
          · rw [am_u_kn (by omega)]; exact hL l (by omega)
      refine s_M_meaningOfSet_2 ⟨fun h => absurd h (by omega), fun _ => ⟨(am_kk hB rfl), 107, (am_rf hB rfl), am_ar_i (by omega) (by omega) (am_ar_i (by omega) (by omega) ?_)⟩⟩
      rw [show (26 : Int) * (s : Int) + (t : Int) = ((26 * s + t : Nat) : Int) by omega]
      refine ⟨fun h => go 0 ?_, fun h => go 3 ?_⟩
      · unfold kx; rw [if_neg h]; rfl
      · unfold kx; rw [if_pos h]
  exact e_M_meaningOfSet (loop 26 0 I rfl (fun _ _ _ => rfl) (fun l hl => absurd hl (Nat.not_lt_zero l)))
/-- a token that begins no type is passed -/
theorem mi_skip {I : Nat → Nat → Int} {rs : Nat} (hB : am_B K R) (hs : s < 2) (hT : mt_T I J kd pl nu nm c) (h11 : I 101 11 = (rs : Int)) (hrs : rs ≤ c) : ∀ (u i : Nat), i + u < rs → (∀ x : Nat, i ≤ x → x < i + u → kd x ≠ 6 ∧ kd x ≠ 7) → am_WP (d + 6) (39, 76, [.inr (.inl 101), .inl (s : Int), .inl ((i + u : Nat) : Int), am_o], [], (0, 0), n, K, I, J, R) Q → am_WP (d + 6) (39, 76, [.inr (.inl 101), .inl (s : Int), .inl (i : Int), am_o], [], (0, 0), n, K, I, J, R) Q := by
  intro u
  induction u with
  | zero => intro i _ _ h; exact h
  | succ u ih =>
    intro i hi hk h
    have h12 := hT.2.1
    have k67 := hk i (by omega) (by omega)
    have nx : am_WP (d + 6) (39, 76, [.inr (.inl 101), .inl (s : Int), .inl ((i + 1 : Nat) : Int), am_o], [], (0, 0), n, K, I, J, R) Q := by
      refine ih (i + 1) (by omega) (fun x a b => hk x (by omega) (by omega)) ?_
      rw [show i + 1 + u = i + (u + 1) by omega]; exact h
    have tw := tr_word (hT.1 i (by omega)).2
    have ixb : (0 : Int) ≤ (i : Int) ∧ (i : Int) < ((1201 : Nat) : Int) := ⟨by omega, by omega⟩
    refine s_M_meaningOfSet_76 (am_ar_i (by omega) (by omega) ⟨(am_kk hB rfl), am_nm_k h11 ?_⟩)
    rintro _ rfl _ _
    refine ⟨fun h => absurd h (by omega), fun _ => ⟨(am_kk hB rfl), 103, (am_rf hB rfl), _, (am_kk hB rfl), ixb, fun z4 hz4 _ _ => ⟨fun _ => am_ar_i (by omega) (by omega) nx, fun h3 => ⟨(am_kk hB rfl), 105, (am_rf hB rfl), _, by decide, (am_kk hB rfl), ixb, fun z8 hz8 _ _ z10 hz10 _ _ => ⟨fun h0 => ?_, fun h0 => ⟨(am_kk hB rfl), 105, (am_rf hB rfl), _, by decide, (am_kk hB rfl), ixb, fun z12 hz12 _ _ z14 hz14 _ _ => ⟨fun _ => am_ar_i (by omega) (by omega) nx, fun h1 => ?_⟩⟩⟩⟩⟩⟩⟩
    · rw [hz10, am_lc0, hz8] at h0
      exact absurd (tw.1.mp ⟨hz4.symm.trans h3, h0⟩) k67.1
    · rw [hz14, am_lc0, hz12] at h1
      exact absurd (tw.2.1.mp ⟨hz4.symm.trans h3, h1⟩) k67.2
/-- the first word of a type -/
theorem mi_type {I : Nat → Nat → Int} {rs p T : Nat} {b : Bool} (hB : am_B K R) (hs : s < 2) (hT : mt_T I J kd pl nu nm c) (h11 : I 101 11 = (rs : Int)) (hrs : rs ≤ c) (hp : p + 1 < rs) (hkd : kd p = (bif b then 7 else 6)) (hl : kd (p + 1) = 2) (hg : g T = nu (p + 1)) (hnw : nw T = xt_v b) (hnw01 : ∀ T' : Nat, T' < T → nw T' = 0 ∨ nw T' = 1) (hL : ∀ l : Nat, l < 26 → I 107 (26 * s + l) = kx g nw T (l : Int))
    (post : ∀ I' : Nat → Nat → Int, (∀ a j : Nat, ¬ (a = 107 ∧ 26 * s ≤ j ∧ j < 26 * s + 26) → I' a j = I a j) → (∀ l : Nat, l < 26 → I' 107 (26 * s + l) = kx g nw (T + 1) (l : Int)) → am_WP (d + 6) (39, 76, [.inr (.inl 101), .inl (s : Int), .inl ((p + 1 : Nat) : Int), am_o], [], (0, 0), n, K, I', J, R) Q) : am_WP (d + 6) (39, 76, [.inr (.inl 101), .inl (s : Int), .inl (p : Int), am_o], [], (0, 0), n, K, I, J, R) Q := by
  have h12 := hT.2.1
  have tw := tr_word (hT.1 p (by omega)).2
  obtain ⟨t1, t2, t3⟩ := tr_let (hT.1 (p + 1) (by omega)).2 hl
  have ixp : (0 : Int) ≤ (p : Int) ∧ (p : Int) < ((1201 : Nat) : Int) := ⟨by omega, by omega⟩
  have ixq : (0 : Int) ≤ ((p + 1 : Nat) : Int) ∧ ((p + 1 : Nat) : Int) < ((1201 : Nat) : Int) := ⟨by omega, by omega⟩
  obtain ⟨l, hl'⟩ : ∃ l : Nat, nu (p + 1) = (l : Int) := ⟨(nu (p + 1)).toNat, by omega⟩
  have same : ((l : Int) = 8 ∨ kx g nw T (l : Int) ≠ 0) → ∀ x : Nat, x < 26 → I 107 (26 * s + x) = kx g nw (T + 1) (x : Int) := by
    intro hor x hx
    rw [hL x hx, kx_step]
    by_cases e : g T = (x : Int) ∧ (x : Int) ≠ 8 ∧ fx g T (x : Int) = -1
    · exfalso
      obtain ⟨e1, e2, e3⟩ := e
      rw [hg, hl'] at e1
      rw [← e1] at e2 e3
      rcases hor with h | h
      · exact e2 h
      · apply h
        unfold kx
        rw [if_neg e2, if_pos e3]
    · rw [if_neg e]
  have b122 : am_WP (d + 6) (39, 122, [.inr (.inl 101), .inl (s : Int), .inl (p : Int), am_o], [], (0, 0), n, K, I, J, R) Q := by
    refine s_M_meaningOfSet_122 ⟨(am_kk hB rfl), 105, (am_rf hB rfl), am_ar_i (by omega) (by omega) ⟨_, by decide, (am_kk hB rfl), ixq, am_nl_k (show J 105 (p + 1) = (l : Int) from t1.trans hl') ?_⟩⟩
    rintro _ rfl _ _ z5 hz5 _ _
    refine ⟨fun h => ?_, fun h => ⟨(am_kk hB rfl), 107, (am_rf hB rfl), am_ar_i (by omega) (by omega) ⟨(am_kk hB rfl), 105, (am_rf hB rfl), am_ar_i (by omega) (by omega) ⟨_, by decide, (am_kk hB rfl), ixq, am_nl_k (show J 105 (p + 1) = (l : Int) from t1.trans hl') ?_⟩⟩⟩⟩
    · rw [hz5, am_lc0] at h
      exact am_ar_i (by omega) (by omega) (post I (fun _ _ _ => rfl) (same (Or.inl h)))
    · rw [hz5, Ne, am_lc0] at h
      rintro _ rfl _ _
      refine am_nm_k (am_l2i_k ⟨by omega, by omega⟩) ?_
      rintro _ rfl _ _
      refine am_ar_i (by omega) (by omega) ?_
      rw [show (26 : Int) * (s : Int) + (l : Int) = ((26 * s + l : Nat) : Int) by omega]
      refine ⟨_, (am_kk hB rfl), ⟨by omega, by omega⟩, am_nm_k (hL l (by omega)) ?_⟩
      rintro _ rfl _ _
      refine ⟨fun h2 => am_ar_i (by omega) (by omega) (post I (fun _ _ _ => rfl) (same (Or.inr h2))), fun h2 => ⟨(am_kk hB rfl), 107, (am_rf hB rfl), am_ar_i (by omega) (by omega) ⟨(am_kk hB rfl), 105, (am_rf hB rfl), am_ar_i (by omega) (by omega) ⟨_, by decide, (am_kk hB rfl), ixq, am_nl_k (show J 105 (p + 1) = (l : Int) from t1.trans hl') ?_⟩⟩⟩⟩
      rintro _ rfl _ _
      refine am_nm_k (am_l2i_k ⟨by omega, by omega⟩) ?_
      rintro _ rfl _ _
      refine am_ar_i (by omega) (by omega) ?_
      rw [show (26 : Int) * (s : Int) + (l : Int) = ((26 * s + l : Nat) : Int) by omega]
      have fin : am_WP (d + 6) (39, 195, [.inr (.inl 101), .inl (s : Int), .inl (p : Int), am_o], [.inl (nw T + 1), .inl ((26 * s + l : Nat) : Int), .inr (.inl 107)], (0, 0), n, K, I, J, R) Q := by
        refine s_M_meaningOfSet_195 ⟨_, by decide, (am_kk hB rfl), ⟨by omega, by omega⟩, am_ar_i (by omega) (by omega) (post _ (fun a j h => ?_) (fun x hx => ?_))⟩
        · show am_u I 107 (26 * s + l) (nw T + 1) a j = _
          exact am_u_off (by omega)
        · show am_u I 107 (26 * s + l) (nw T + 1) 107 (26 * s + x) = _
          rw [kx_step]
          by_cases e : x = l
          · subst e
            have h3 := (kx_0 (l := (x : Int)) hnw01).mp h2
            unfold lx at h3
            rw [if_neg h] at h3
            rw [am_u_kk, if_pos ⟨by rw [hg, hl'], h, h3⟩]
          · rw [am_u_kn (by omega), hL x hx, if_neg (fun q => e ?_)]
            have := q.1
            rw [hg, hl'] at this
            omega
      refine ⟨(am_kk hB rfl), 105, (am_rf hB rfl), _, by decide, (am_kk hB rfl), ixp, fun z27 hz27 _ _ z29 hz29 _ _ => ⟨fun h3 => ?_, fun h3 => ?_⟩⟩
      · have eb : b = true := by
          cases b
          · exfalso
            apply h3
            rw [hz29, am_lc0, hz27]
            exact (tw.1.mpr hkd).2
          · rfl
        rw [hnw, eb] at fin
        exact fin
      · have eb : b = false := by
          cases b
          · rfl
          · rw [hz29, am_lc0, hz27] at h3
            have h4 := (tw.2.1.mpr hkd).2
            have h5 : J 105 p = 1684108385 := h3
            rw [h4] at h5
            exact absurd h5 (by decide)
        rw [hnw, eb] at fin
        exact fin
  refine s_M_meaningOfSet_76 (am_ar_i (by omega) (by omega) ⟨(am_kk hB rfl), am_nm_k h11 ?_⟩)
  rintro _ rfl _ _
  refine ⟨fun h => absurd h (by omega), fun _ => ⟨(am_kk hB rfl), 103, (am_rf hB rfl), _, (am_kk hB rfl), ixp, fun z4 hz4 _ _ => ⟨fun n3 => ?_, fun h3 => ⟨(am_kk hB rfl), 105, (am_rf hB rfl), _, by decide, (am_kk hB rfl), ixp, fun z8 hz8 _ _ z10 hz10 _ _ => ⟨fun h0 => b122, fun h0 => ⟨(am_kk hB rfl), 105, (am_rf hB rfl), _, by decide, (am_kk hB rfl), ixp, fun z12 hz12 _ _ z14 hz14 _ _ => ⟨fun h1 => ?_, fun h1 => b122⟩⟩⟩⟩⟩⟩⟩
  · exfalso
    apply n3
    rw [hz4]
    cases b
    · exact (tw.1.mpr hkd).1
    · exact (tw.2.1.mpr hkd).1
  · exfalso
    cases b
    · apply h0
      rw [hz10, am_lc0, hz8]
      exact (tw.1.mpr hkd).2
    · apply h1
      rw [hz14, am_lc0, hz12]
      exact (tw.2.1.mpr hkd).2
theorem cs_sp_67 {kd : Nat → Int} : ∀ (as : List Nat) (q : Nat), cs_sp kd q as → ∀ x : Nat, q ≤ x → x < q + cs_sz as → kd x ≠ 6 ∧ kd x ≠ 7 ∧ kd x ≠ 8 := by
  intro as
  induction as with
  | nil => intro q h; exact h.elim
  | cons a as ih =>
    intro q h x h1 h2
    obtain ⟨s1, s2, s3, s4⟩ := h
    have ez : cs_sz (a :: as) = (a + 2) + cs_sz as := rfl
    by_cases e1 : x = q
    · rw [e1, s1]; decide
    · by_cases e2 : x < q + 1 + a
      · have := s3 (x - (q + 1)) (by omega)
        rw [show q + 1 + (x - (q + 1)) = x by omega] at this
        rw [this]; decide
      · by_cases e3 : x = q + 1 + a
        · rw [e3]
          rcases s4 with h | h
          · rw [h.2]; decide
          · rw [h.2.1]; decide
        · rcases s4 with h | h
          · rw [h.1] at ez
            have : cs_sz [] = 0 := rfl
            have : cs_sz (a :: as) = a + 2 := by rw [h.1]; rfl
            omega
          · exact ih _ h.2.2 x (by omega) (by omega)
theorem mi_types {F G : Nat → Nat → Int} {r rs : Nat} (hB : am_B K R) (hs : s < 2) (hrs : rs ≤ c) (hnw01 : ∀ T : Nat, nw T = 0 ∨ nw T = 1) : ∀ (ts : List ty) (T C p j : Nat) (I : Nat → Nat → Int), mt_T I J kd pl nu nm c → I 101 11 = (rs : Int) → ts_sp kd p ts j → j < rs → xs_types F G r pl nu nm T C p ts → (∀ T' : Nat, g T' = F (r + 9) T') → (∀ T' : Nat, T ≤ T' → T' < T + ts.length → nw T' = F (r + 2) T') → (∀ l : Nat, l < 26 → I 107 (26 * s + l) = kx g nw T (l : Int)) →
    (∀ I' : Nat → Nat → Int, (∀ a j : Nat, ¬ (a = 107 ∧ 26 * s ≤ j ∧ j < 26 * s + 26) → I' a j = I a j) → (∀ l : Nat, l < 26 → I' 107 (26 * s + l) = kx g nw (T + ts.length) (l : Int)) → am_WP (d + 6) (39, 76, [.inr (.inl 101), .inl (s : Int), .inl (j : Int), am_o], [], (0, 0), n, K, I', J, R) Q) → am_WP (d + 6) (39, 76, [.inr (.inl 101), .inl (s : Int), .inl (p : Int), am_o], [], (0, 0), n, K, I, J, R) Q := by
  intro ts
  induction ts with
  | nil =>
    intro T C p j I hT h11 hsp hj hx hg hn hL post
    have e : p = j := hsp
    subst e
    exact post I (fun _ _ _ => rfl) hL
  | cons t ts ih =>
    intro T C p j I hT h11 hsp hj hx hg hn hL post
    have hjz := ts_sp_sz _ _ _ hsp
    have ez : ts_sz (t :: ts) = ty_sz t + ts_sz ts := rfl
    have ey : ty_sz t = 3 + cs_sz t.2 := rfl
    obtain ⟨m, ⟨hty, rfl⟩, hrest⟩ := hsp
    obtain ⟨t1, t2, t3, t4, t5, t6⟩ := hty
    obtain ⟨x1, x2, x3, x4, x5, x6, x7⟩ := hx
    refine mi_type (g := g) (nw := nw) (T := T) (b := t.1) hB hs hT h11 hrs (by omega) t1 t2 (by rw [hg, x1]) (by rw [hn T (by omega) (by show T < T + (ts.length + 1); omega), x3]) (fun T' _ => hnw01 T') hL (fun I1 f1 L1 => ?_)
    have hT1 : mt_T I1 J kd pl nu nm c := ⟨fun k hk => by rw [f1 104 k (by omega), f1 103 k (by omega)]; exact hT.1 k hk, hT.2⟩
    have g11 : I1 101 11 = (rs : Int) := (f1 _ _ (by omega)).trans h11
    refine mi_skip hB hs hT1 g11 hrs (2 + cs_sz t.2) (p + 1) (by omega) (fun x a b => ?_) ?_
    · by_cases e1 : x = p + 1
      · rw [e1, t2]; decide
      · by_cases e2 : x = p + 2
        · rw [e2, t3]; decide
        · have := cs_sp_67 _ _ t4 x (by omega) (by omega)
          exact ⟨this.1, this.2.1⟩
    · rw [show p + 1 + (2 + cs_sz t.2) = p + ty_sz t by omega]
      refine ih (T + 1) (C + t.2.length) (p + ty_sz t) j I1 hT1 g11 hrest hj x7 hg (fun T' a b => hn T' (by omega) (by show T' < T + (ts.length + 1); omega)) L1 (fun I2 f2 L2 => post I2 (fun a j h => (f2 a j h).trans (f1 a j h)) (fun l hl => ?_))
      rw [show T + (t :: ts).length = T + 1 + ts.length by show T + (ts.length + 1) = _; omega]
      exact L2 l hl
end MI
