/-! SEARCH: the class's answers -/
section XAN
variable (F : Nat → Nat → Int) (a : Nat → List (Nat × Int)) (nr r m : Nat) (S : Nat → Prop)
def opX (K : Nat → Int) (ρ p : Nat) (w : Int) : Prop := clo K ∧ typ a nr (twf F r) (vdf m) K ∧ isF a nr S K ρ ∧ fo K (a ρ) = some (p, w) ∧ (p, w) ∈ a ρ ∧ K p = -1 ∧ pco K (a ρ) p
/-- where the class holds an ask -/
def asX (I : Nat → Nat → Int) (ns k i p : Nat) (w : Int) : Prop := k < 60 ∧ i < ns ∧ I 36 k = (i : Int) ∧ F 35 i = (p : Int) ∧ I 37 k = ec w
end XAN
section XAM
variable {d n0 : Nat} {C : Nat → am_K} {F I J : Nat → Nat → Int} {R : Nat → Nat → Option Nat} {Q : am_Q} {a : Nat → List (Nat × Int)} {bg : Nat → Nat} {ns cnt nr r N m : Nat} {S : Nat → Prop} {K : Nat → Int} {q : Nat → Bool} {i p k ρ : Nat} {w : Int}
theorem wnd_ty (hA : aOk a nr (twf F r) (vdf m)) (hO : opX F a nr r m S K ρ p w) {v : Int} (h : wnd a nr S K p v) : vdf m v ∧ twf F r v = twf F r w := by
  obtain ⟨k1, k2, k3, k4, k5, k6, k7⟩ := hO
  obtain ⟨ρ', q1, q2, q3, q4⟩ := h
  have hρ := k3.1
  refine ⟨(hA.1 ρ' q1 _ q4).2.1, ?_⟩
  refine (hA.2.2.1 ρ ρ' hρ q1 (p, w) k5 (p, v) q4 rfl ?_).symm
  rcases k7 with q | ⟨c, a1, a2⟩
  · exact Or.inl q
  · right
    rcases Nat.lt_or_ge 4 p with g4 | g4
    · obtain ⟨c', a3⟩ := (hA.1 ρ' q1 _ q4).2.2.2 g4
      rcases q3 _ a3 with b | b
      · have b : K (pr p) = -1 := b
        rw [a2] at b
        exact absurd b (hA.1 ρ hρ _ a1).2.2.1
      · have b : K (pr p) = c' := b
        rw [a2] at b
        subst b
        exact ⟨c, a1, a3⟩
    · exfalso
      have h0 : pr p = 0 := by unfold pr; omega
      have h9 : 1 ≤ pr p := (hA.1 ρ hρ _ a1).1
      omega
/-- wanted constructors -/
theorem Wn_con {T fc kc cw s : Nat} {Ic : Nat → Nat → Int} (hA : aOk a nr (twf F r) (vdf m)) (hC : cE F r s N m Ic) (hO : opX F a nr r m S K ρ p (cw : Int)) (hcw : cw < 36) (hct : F (r + 5) cw = (T : Int)) (hT : T < N) (hf : F (r + 3) T = (fc : Int)) (hk : F (r + 4) T = (kc : Int)) {y : Int} : Wn a nr S K p y ↔ ∃ c : Nat, y = (c : Int) ∧ fc ≤ c ∧ c < fc + kc ∧ wnd a nr S K p (c : Int) := by
  have m36 : m ≤ 36 := hC.2.1
  constructor
  · rintro ⟨v, hv, e⟩
    obtain ⟨v1, v2⟩ := wnd_ty hA hO hv
    rw [twf_con hcw hct] at v2
    obtain ⟨c, rfl, w1, w2⟩ := vd_con hC hT hf hk v1 v2
    have cm := (con_vd hC hT hf hk w1 w2).1
    refine ⟨c, ?_, w1, w2, hv⟩
    rw [← e]
    exact if_pos (by omega)
  · rintro ⟨c, e, w1, w2, hv⟩
    have cm := (con_vd hC hT hf hk w1 w2).1
    refine ⟨(c : Int), hv, ?_⟩
    rw [e]
    exact if_pos (by omega)
theorem Wn_num {s : Nat} {Ic : Nat → Nat → Int} (hA : aOk a nr (twf F r) (vdf m)) (hC : cE F r s N m Ic) (hO : opX F a nr r m S K ρ p w) (hw : 100 ≤ w) {y : Int} : Wn a nr S K p y ↔ 36 ≤ y ∧ wnd a nr S K p (y + 64) := by
  constructor
  · rintro ⟨v, hv, e⟩
    obtain ⟨v1, v2⟩ := wnd_ty hA hO hv
    rw [twf_num hw] at v2
    have v6 := num_6 hC v1 v2
    unfold ec at e
    rw [if_neg (by omega)] at e
    refine ⟨by omega, ?_⟩
    rw [show y + 64 = v by omega]; exact hv
  · rintro ⟨h1, h2⟩
    refine ⟨_, h2, ?_⟩
    unfold ec
    rw [if_neg (by omega)]; omega
section CON
variable {T fc kc : Nat}
/-- a type of constructors, as the class holds it -/
def tyX (F : Nat → Nat → Int) (r N m T fc kc : Nat) : Prop := T < N ∧ N ≤ 6 ∧ F (r + 3) T = (fc : Int) ∧ F (r + 4) T = (kc : Int) ∧ kc ≤ 6 ∧ 0 < kc ∧ fc + kc ≤ m ∧ m ≤ 36 ∧ ∀ c : Nat, fc ≤ c → c < fc + kc → F (r + 5) c = (T : Int)
theorem x_nextCon {c : Nat} {x2 : Int} (hB : am_B C R) (hr : r = 41 ∨ r = 71) (hI : xs_f F I) (hT : tyX F r N m T fc kc) (h1 : fc ≤ c) (h2 : c < fc + kc) (post : Q (some (.inl (if c + 1 < fc + kc then ((c + 1 : Nat) : Int) else -1))) (n0, C, I, J, R)) : am_WP (d + 1) (am_entry 127 [.inr (.inl 31), .inr (.inl (r + 1)), .inl x2, .inl (i : Int), .inl (c : Int)] (n0, C, I, J, R)) Q := by
  obtain ⟨t1, t2, t3, t4, t5, t6, t7, t8, t9⟩ := hT
  have k1 : C (r + 1) = .inl 10 := am_kq (i := 1) hB hr (by decide) rfl
  refine e_Search_nextAnswer ⟨fun h => absurd h (by omega), fun _ => ⟨k1, r + 5, am_rq (i := 1) hB hr rfl rfl, _, am_kq (i := 5) hB hr (by decide) rfl, ⟨by omega, by omega⟩, am_nm_k ((congrFun (hI (r + 5) (by omega)) c).trans (t9 c h1 h2)) ?_⟩⟩
  rintro _ rfl _ _
  refine am_ar_i (by omega) (by omega) ⟨k1, r + 3, am_rq (i := 1) hB hr rfl rfl, _, am_kq (i := 3) hB hr (by decide) rfl, ⟨by omega, by omega⟩, am_nm_k ((congrFun (hI (r + 3) (by omega)) T).trans t3) ?_⟩
  rintro _ rfl _ _
  refine ⟨k1, r + 4, am_rq (i := 1) hB hr rfl rfl, _, am_kq (i := 4) hB hr (by decide) rfl, ⟨by omega, by omega⟩, am_nm_k ((congrFun (hI (r + 4) (by omega)) T).trans t4) ?_⟩
  rintro _ rfl _ _
  refine am_ar_i (by omega) (by omega) ⟨fun h => s_Search_nextAnswer_46 ?_, fun h => am_ar_i (by omega) (by omega) (s_Search_nextAnswer_46 ?_)⟩
  · rw [if_neg (by omega)] at post; exact post
  · rw [if_pos (by omega)] at post; exact post
theorem x_firstCon' {cw : Nat} {x2 : Int} (hB : am_B C R) (hr : r = 41 ∨ r = 71) (hI : xs_f F I) (hT : tyX F r N m T fc kc) (h1 : fc ≤ cw) (h2 : cw < fc + kc) (hs : asX F I ns k i p (cw : Int)) (post : Q (some (.inl (fc : Int))) (n0, C, I, J, R)) : am_WP (d + 1) (am_entry 126 [.inr (.inl 31), .inr (.inl (r + 1)), .inl x2, .inl (k : Int)] (n0, C, I, J, R)) Q := by
  obtain ⟨t1, t2, t3, t4, t5, t6, t7, t8, t9⟩ := hT
  obtain ⟨s1, s2, s3, s4, s5⟩ := hs
  have k1 : C (r + 1) = .inl 10 := am_kq (i := 1) hB hr (by decide) rfl
  have e : ec (cw : Int) = (cw : Int) := if_pos (by omega)
  refine e_Search_firstAnswer ⟨(am_kk hB rfl), 34, (am_rf hB rfl), (am_kk hB rfl), 37, (am_rf hB rfl), _, (am_kk hB rfl), ⟨by omega, by omega⟩, am_nm_k (s5.trans e) ?_⟩
  rintro _ rfl _ _
  refine ⟨fun h => absurd h (by omega), fun _ => ⟨k1, r + 3, am_rq (i := 1) hB hr rfl rfl, k1, r + 5, am_rq (i := 1) hB hr rfl rfl, _, am_kq (i := 5) hB hr (by decide) rfl, ⟨by omega, by omega⟩, am_nm_k ((congrFun (hI (r + 5) (by omega)) cw).trans (t9 cw h1 h2)) ?_⟩⟩
  rintro _ rfl _ _
  refine ⟨_, am_kq (i := 3) hB hr (by decide) rfl, ⟨by omega, by omega⟩, am_nm_k ((congrFun (hI (r + 3) (by omega)) T).trans t3) ?_⟩
  rintro _ rfl _ _
  exact post
theorem x_unwCon {cw : Nat} (hB : am_B C R) (hr : r = 41 ∨ r = 71) (hX : xE F a bg ns cnt nr r N m) (hI : xs_f F I) (hq : rwq a nr S K q) (hO : opX F a nr r m S K ρ p (cw : Int)) (hT : tyX F r N m T fc kc) (h1 : fc ≤ cw) (h2 : cw < fc + kc) (hs : asX F I ns k i p (cw : Int)) (some' : ∀ c : Nat, fc ≤ c → c < fc + kc → ¬ wnd a nr S K p (c : Int) → Q (some (.inl (c : Int))) (n0, C, I, J, R)) (none' : (∀ c : Nat, fc ≤ c → c < fc + kc → wnd a nr S K p (c : Int)) → Q (some (.inl (-1))) (n0, C, I, J, R)) : am_WP (d + 3) (am_entry 129 [.inr (.inl 31), .inr (.inl (r + 1)), .inl ((mk q 12 : Nat) : Int), .inl (k : Int)] (n0, C, I, J, R)) Q := by
  have hT0 := hT
  obtain ⟨t1, t2, t3, t4, t5, t6, t7, t8, t9⟩ := hT
  obtain ⟨s1, s2, s3, s4, s5⟩ := hs
  obtain ⟨Ic, hC⟩ := hX.2.2.2.1
  have hA := hX.2.2.2.2.1
  have k1 : C (r + 1) = .inl 10 := am_kq (i := 1) hB hr (by decide) rfl
  have e : ec (cw : Int) = (cw : Int) := if_pos (by omega)
  have ns60 : ns ≤ 60 := by have := hX.1.2.2.1; have := hX.1.2.2.2.1; omega
  have W : ∀ y : Int, Wn a nr S K p y ↔ ∃ c : Nat, y = (c : Int) ∧ fc ≤ c ∧ c < fc + kc ∧ wnd a nr S K p (c : Int) := fun y => Wn_con hA hC hO (by omega) (t9 cw h1 h2) t1 t3 t4
  refine e_Search_unwantedAnswer ⟨(am_kk hB rfl), 34, (am_rf hB rfl), (am_kk hB rfl), 36, (am_rf hB rfl), _, (am_kk hB rfl), ⟨by omega, by omega⟩, am_nm_k s3 ?_⟩
  rintro _ rfl _ _
  refine ⟨(am_kk hB rfl), 34, (am_rf hB rfl), (am_kk hB rfl), 37, (am_rf hB rfl), _, (am_kk hB rfl), ⟨by omega, by omega⟩, am_nm_k (s5.trans e) ?_⟩
  rintro _ rfl _ _
  refine ⟨fun _ => ⟨k1, r + 5, am_rq (i := 1) hB hr rfl rfl, (am_kk hB rfl), 34, (am_rf hB rfl), (am_kk hB rfl), 37, (am_rf hB rfl), _, (am_kk hB rfl), ⟨by omega, by omega⟩, am_nm_k (s5.trans e) ?_⟩, fun h => absurd h (by omega)⟩
  rintro _ rfl _ _
  refine ⟨_, am_kq (i := 5) hB hr (by decide) rfl, ⟨by omega, by omega⟩, am_nm_k ((congrFun (hI (r + 5) (by omega)) cw).trans (t9 cw h1 h2)) ?_⟩
  rintro _ rfl _ _
  refine ⟨(am_kk hB rfl), 34, (am_rf hB rfl), k1, r + 3, am_rq (i := 1) hB hr rfl rfl, _, am_kq (i := 3) hB hr (by decide) rfl, ⟨by omega, by omega⟩, am_nm_k ((congrFun (hI (r + 3) (by omega)) T).trans t3) ?_⟩
  rintro _ rfl _ _
  refine ⟨(am_kk hB rfl), x_leastUnwanted hB hX hI hq s2 s4 (by omega) (by omega) ⟨kc, by omega, fun h => ?_⟩ (fun y y1 y2 y3 y4 => ⟨_, rfl, ?_⟩)⟩
  · obtain ⟨c, g1, g2, g3, -⟩ := (W _).mp h
    omega
  · refine s_Search_unwantedAnswer_71 ⟨k1, r + 3, am_rq (i := 1) hB hr rfl rfl, _, am_kq (i := 3) hB hr (by decide) rfl, ⟨by omega, by omega⟩, am_nm_k ((congrFun (hI (r + 3) (by omega)) T).trans t3) ?_⟩
    rintro _ rfl _ _
    refine ⟨k1, r + 4, am_rq (i := 1) hB hr rfl rfl, _, am_kq (i := 4) hB hr (by decide) rfl, ⟨by omega, by omega⟩, am_nm_k ((congrFun (hI (r + 4) (by omega)) T).trans t4) ?_⟩
    rintro _ rfl _ _
    refine am_ar_i (by omega) (by omega) ⟨fun h => s_Search_unwantedAnswer_99 (none' (fun c c1 c2 => ?_)), fun h => s_Search_unwantedAnswer_99 ?_⟩
    · obtain ⟨c', g1, -, -, g4⟩ := (W _).mp (y4 (c : Int) (by omega) (by omega))
      have : c' = c := by omega
      rw [this] at g4
      exact g4
    · obtain ⟨c, hc⟩ : ∃ c : Nat, y = (c : Int) := ⟨y.toNat, by omega⟩
      rw [hc] at y1 y2 y3 h ⊢
      exact some' c (by omega) (by omega) (fun hw => y3 ((W _).mpr ⟨c, rfl, by omega, by omega, hw⟩))
end CON
section NUM
theorem x_firstNum (hB : am_B C R) (hX : xE F a bg ns cnt nr r N m) (hI : xs_f F I) (hq : rwq a nr S K q) (hO : opX F a nr r m S K ρ p w) (hw : 100 ≤ w) (hs : asX F I ns k i p w) (post : ∀ v : Int, 100 ≤ v → wnd a nr S K p v → (∀ v' : Int, v' < v → ¬ wnd a nr S K p v') → Q (some (.inl (ec v))) (n0, C, I, J, R)) {rr : Nat} : am_WP (d + 2) (am_entry 126 [.inr (.inl 31), .inr (.inl rr), .inl ((mk q 12 : Nat) : Int), .inl (k : Int)] (n0, C, I, J, R)) Q := by
  obtain ⟨s1, s2, s3, s4, s5⟩ := hs
  obtain ⟨Ic, hC⟩ := hX.2.2.2.1
  have hA := hX.2.2.2.2.1
  have e : ec w = w - 64 := if_neg (by omega)
  have w9 := hX.2.2.2.2.2.2.2 ρ hO.2.2.1.1 _ hO.2.2.2.2.1
  have w9 : w ≤ 1099 := w9
  have ns60 : ns ≤ 60 := by have := hX.1.2.2.1; have := hX.1.2.2.2.1; omega
  have W : ∀ y : Int, Wn a nr S K p y ↔ 36 ≤ y ∧ wnd a nr S K p (y + 64) := fun y => Wn_num hA hC hO hw
  refine e_Search_firstAnswer ⟨(am_kk hB rfl), 34, (am_rf hB rfl), (am_kk hB rfl), 37, (am_rf hB rfl), _, (am_kk hB rfl), ⟨by omega, by omega⟩, am_nm_k (s5.trans e) (fun z hz _ _ => ?_)⟩
  rw [hz]
  refine ⟨fun _ => ⟨(am_kk hB rfl), 34, (am_rf hB rfl), (am_kk hB rfl), 34, (am_rf hB rfl), (am_kk hB rfl), 36, (am_rf hB rfl), _, (am_kk hB rfl), ⟨by omega, by omega⟩, am_nm_k s3 ?_⟩, fun h => absurd h (by omega)⟩
  rintro _ rfl _ _
  refine ⟨(am_kk hB rfl), x_leastWanted hB hX hI hq s2 s4 (by omega) (fun y hy => ⟨_, rfl, s_Search_firstAnswer_50 ?_⟩)⟩
  rcases hy with ⟨h1, h2⟩ | ⟨h1, h2, h3⟩
  · exfalso
    refine h2 (w - 64) (by omega) ((W _).mpr ⟨by omega, ?_⟩)
    rw [show w - 64 + 64 = w by omega]
    exact ⟨ρ, hO.2.2.1.1, hO.2.2.1.2.1, hO.2.2.1.2.2.1, hO.2.2.2.2.1⟩
  · have g := (W y).mp h2
    have := post (y + 64) (by omega) g.2 (fun v' hv' hw' => ?_)
    · unfold ec at this
      rw [if_neg (by omega), show y + 64 - 64 = y by omega] at this
      exact this
    · have g2 := (wnd_ty hA hO hw').2
      have g1 := (wnd_ty hA hO hw').1
      rw [twf_num hw] at g2
      have v6 := num_6 hC g1 g2
      refine h3 (v' - 64) (by omega) (by omega) ((W _).mpr ⟨by omega, ?_⟩)
      rw [show v' - 64 + 64 = v' by omega]; exact hw'
/-- the least number that no row wants -/
def luw (a : Nat → List (Nat × Int)) (nr : Nat) (S : Nat → Prop) (K : Nat → Int) (p : Nat) (v : Int) : Prop := 100 ≤ v ∧ v ≤ 200 ∧ ¬ wnd a nr S K p v ∧ ∀ v' : Int, 100 ≤ v' → v' < v → wnd a nr S K p v'
theorem x_luw (hB : am_B C R) (hX : xE F a bg ns cnt nr r N m) (hI : xs_f F I) (hq : rwq a nr S K q) (hO : opX F a nr r m S K ρ p w) (hw : 100 ≤ w) (hi : i < ns) (hp : F 35 i = (p : Int)) (post : ∀ v : Int, luw a nr S K p v → Q (some (.inl (ec v))) (n0, C, I, J, R)) : am_WP (d + 2) (am_entry 130 [.inr (.inl 34), .inl ((mk q 12 : Nat) : Int), .inl (i : Int), .inl 36] (n0, C, I, J, R)) Q := by
  obtain ⟨Ic, hC⟩ := hX.2.2.2.1
  have hA := hX.2.2.2.2.1
  have nr12 := hX.2.2.1
  have W : ∀ y : Int, Wn a nr S K p y ↔ 36 ≤ y ∧ wnd a nr S K p (y + 64) := fun y => Wn_num hA hC hO hw
  obtain ⟨n1, u1, u2⟩ := unw (S := S) hA p K 100
  refine x_leastUnwanted hB hX hI hq hi hp (by omega) (by omega) ⟨n1, by omega, fun h => u2 ?_⟩ (fun y y1 y2 y3 y4 => ?_)
  · have := ((W _).mp h).2
    rw [show (36 : Int) + (n1 : Int) + 64 = 100 + (n1 : Int) by omega] at this
    exact this
  · have := post (y + 64) ⟨by omega, by omega, fun h => y3 ((W y).mpr ⟨y1, h⟩), fun v' g1 g2 => ?_⟩
    · unfold ec at this
      rw [if_neg (by omega), show y + 64 - 64 = y by omega] at this
      exact this
    · have := ((W _).mp (y4 (v' - 64) (by omega) (by omega))).2
      rw [show v' - 64 + 64 = v' by omega] at this
      exact this
theorem x_unwNum (hB : am_B C R) (hX : xE F a bg ns cnt nr r N m) (hI : xs_f F I) (hq : rwq a nr S K q) (hO : opX F a nr r m S K ρ p w) (hw : 100 ≤ w) (hs : asX F I ns k i p w) (post : ∀ v : Int, luw a nr S K p v → Q (some (.inl (ec v))) (n0, C, I, J, R)) {rr : Nat} : am_WP (d + 3) (am_entry 129 [.inr (.inl 31), .inr (.inl rr), .inl ((mk q 12 : Nat) : Int), .inl (k : Int)] (n0, C, I, J, R)) Q := by
  obtain ⟨s1, s2, s3, s4, s5⟩ := hs
  have e : ec w = w - 64 := if_neg (by omega)
  have ns60 : ns ≤ 60 := by have := hX.1.2.2.1; have := hX.1.2.2.2.1; omega
  refine e_Search_unwantedAnswer ⟨(am_kk hB rfl), 34, (am_rf hB rfl), (am_kk hB rfl), 36, (am_rf hB rfl), _, (am_kk hB rfl), ⟨by omega, by omega⟩, am_nm_k s3 ?_⟩
  rintro _ rfl _ _
  refine ⟨(am_kk hB rfl), 34, (am_rf hB rfl), (am_kk hB rfl), 37, (am_rf hB rfl), _, (am_kk hB rfl), ⟨by omega, by omega⟩, am_nm_k (s5.trans e) (fun z hz _ _ => ?_)⟩
  rw [hz]
  exact ⟨fun h => absurd h (by omega), fun _ => ⟨(am_kk hB rfl), 34, (am_rf hB rfl), (am_kk hB rfl), x_luw hB hX hI hq hO hw s2 s4 (fun v hv => ⟨_, rfl, s_Search_unwantedAnswer_37 (post v hv)⟩)⟩⟩
theorem x_nextNum {v : Int} (hB : am_B C R) (hX : xE F a bg ns cnt nr r N m) (hI : xs_f F I) (hq : rwq a nr S K q) (hO : opX F a nr r m S K ρ p w) (hw : 100 ≤ w) (hi : i < ns) (hp : F 35 i = (p : Int)) (hv : wnd a nr S K p v) (post1 : ∀ v2 : Int, v < v2 → wnd a nr S K p v2 → (∀ v' : Int, v < v' → v' < v2 → ¬ wnd a nr S K p v') → Q (some (.inl (ec v2))) (n0, C, I, J, R)) (post2 : (∀ v' : Int, v < v' → ¬ wnd a nr S K p v') → ∀ v2 : Int, luw a nr S K p v2 → Q (some (.inl (ec v2))) (n0, C, I, J, R)) {rr : Nat} : am_WP (d + 3) (am_entry 127 [.inr (.inl 31), .inr (.inl rr), .inl ((mk q 12 : Nat) : Int), .inl (i : Int), .inl (ec v)] (n0, C, I, J, R)) Q := by
  obtain ⟨Ic, hC⟩ := hX.2.2.2.1
  have hA := hX.2.2.2.2.1
  have W : ∀ y : Int, Wn a nr S K p y ↔ 36 ≤ y ∧ wnd a nr S K p (y + 64) := fun y => Wn_num hA hC hO hw
  have wr : ∀ v : Int, wnd a nr S K p v → 100 ≤ v ∧ v ≤ 1099 := by
    intro v h
    obtain ⟨g1, g2⟩ := wnd_ty hA hO h
    rw [twf_num hw] at g2
    obtain ⟨ρ', q1, q2, q3, q4⟩ := h
    exact ⟨num_6 hC g1 g2, hX.2.2.2.2.2.2.2 ρ' q1 _ q4⟩
  have v1 := wr v hv
  have ev : ec v = v - 64 := if_neg (by omega)
  have wv : Wn a nr S K p (v - 64) := (W _).mpr ⟨by omega, by rw [show v - 64 + 64 = v by omega]; exact hv⟩
  rw [ev]
  refine e_Search_nextAnswer ⟨fun _ => ⟨(am_kk hB rfl), 34, (am_rf hB rfl), (am_kk hB rfl), x_leastWanted hB hX hI hq hi hp (by omega) (fun y hy => ⟨_, rfl, s_Search_nextAnswer_58 ⟨fun c => ⟨(am_kk hB rfl), 34, (am_rf hB rfl), am_ar_i (by omega) (by omega) ⟨(am_kk hB rfl), x_leastWanted hB hX hI hq hi hp (by omega) (fun y2 hy2 => ⟨_, rfl, s_Search_nextAnswer_78 ⟨fun c2 => s_Search_nextAnswer_102 ?_, fun c2 => ⟨(am_kk hB rfl), 34, (am_rf hB rfl), (am_kk hB rfl), x_luw hB hX hI hq hO hw hi hp (fun v2 hv2 => ⟨_, rfl, s_Search_nextAnswer_97 (s_Search_nextAnswer_102 (post2 (fun v' g1 g2 => ?_) v2 hv2))⟩)⟩⟩⟩)⟩⟩, fun c => ?_⟩⟩)⟩, fun h => absurd h (by omega)⟩
  · rcases hy2 with ⟨h1, h2⟩ | ⟨h1, h2, h3⟩
    · exact absurd h1 c2
    · have g := (W y2).mp h2
      have := post1 (y2 + 64) (by omega) g.2 (fun v' g1 g2 g3 => h3 (v' - 64) (by omega) (by omega) ((W _).mpr ⟨by omega, by rw [show v' - 64 + 64 = v' by omega]; exact g3⟩))
      unfold ec at this
      rw [if_neg (by omega), show y2 + 64 - 64 = y2 by omega] at this
      exact this
  · rcases hy2 with ⟨h1, h2⟩ | ⟨h1, h2, h3⟩
    · exact h2 (v' - 64) (by omega) ((W _).mpr ⟨by omega, by rw [show v' - 64 + 64 = v' by omega]; exact g2⟩)
    · omega
  · exfalso
    rcases hy with ⟨h1, h2⟩ | ⟨h1, h2, h3⟩
    · exact h2 _ (Int.le_refl _) wv
    · exact h3 _ (Int.le_refl _) (by omega) wv
end NUM
end XAM
