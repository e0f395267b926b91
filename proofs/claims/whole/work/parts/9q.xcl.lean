/-! SEARCH: the class collects what rows ask for -/
def tyl {T : Type} (f : Int → T → Option Int) : List T → (Nat → Int) → Prop
  | [], _ => True
  | t :: ts, W => f (W 0) t = none ∧ tyl f ts (fun i => W (i + 1))
theorem tyl_of {T : Type} {f : Int → T → Option Int} {at' : T → Int} {e : Int} : ∀ (ts : List T) (m : Nat) (W : Nat → Int), ls_f f at' e W m ts = none → tyl f ts W ∧ ts.length = m := by
  intro ts
  induction ts with
  | nil =>
    intro m W h
    cases m with
    | zero => exact ⟨trivial, rfl⟩
    | succ m => exact absurd (show some e = none from h) (by simp)
  | cons t ts ih =>
    intro m W h
    cases m with
    | zero => exact absurd (show some (at' t) = none from h) (by simp)
    | succ m =>
      have h' : oe (f (W 0) t) (ls_f f at' e (fun i => W (i + 1)) m ts) = none := h
      obtain ⟨a, b⟩ := oe_none h'
      obtain ⟨p1, p2⟩ := ih m _ b
      exact ⟨⟨a, p1⟩, by show ts.length + 1 = m + 1; omega⟩
theorem akf_app {B B' : List (Nat × Int)} : akf (B ++ B') = akf B ++ akf B' := List.filter_append ..
theorem akf_nil : akf [] = [] := rfl
theorem cns_app {B B' : List (Nat × Int)} (h : cns (B ++ B')) : cns B := fun x hx y hy => h x (List.mem_append_left _ hx) y (List.mem_append_left _ hy)
section XQC
variable {F I J : Nat → Nat → Int} {aT W : Nat → Int} {r s N m wd : Nat}
theorem rE_q (hr : r = 41 ∨ r = 71) (hf : xq_fr F I) (h : rE F aT W r s N m wd) : rE I aT W r s N m wd := by
  unfold rE at h ⊢
  rw [hf (r + 9) (by omega), hf (r + 2) (by omega), hf (r + 5) (by omega), hf (r + 6) (by omega), hf (r + 12) (by omega), hf (r + 27) (by omega)]
  exact h
theorem nwc_q (hr : r = 41 ∨ r = 71) (hf : xq_fr F I) : nwc I r = nwc F r := by
  funext c
  unfold nwc
  rw [hf (r + 2) (by omega), hf (r + 5) (by omega)]
theorem vl_q {b n k : Nat} {u : tm n} {w : Int} (hr : r = 41 ∨ r = 71) (hb : b = 19 ∨ b = 56 ∨ b = 86) (hf : xq_fr F I) (h : vl F J aT r m b n k u w) : vl I J aT r m b n k u w := by
  obtain ⟨h1, h2, h3, h4, h5⟩ := h
  refine ⟨ft_H_frame n k u h1 (fun x j a1 a2 _ _ _ => by rw [hf x (by omega)]) (fun _ _ _ => rfl), ft_G_fr n k u h2 (fun j _ _ => by rw [hf (b + 7) (by omega)]), h3, ?_, h5⟩
  rw [hf (r + 5) (by omega), hf (r + 6) (by omega)]; exact h4
end XQC
section XCL
variable (n0 : Nat) (K : Nat → am_K) (F J : Nat → Nat → Int) (R : Nat → Nat → Option Nat) (aT : Nat → Int) (r m ρ : Nat)
def xq_P (n : Nat) : Prop := ∀ (i p D : Nat) (t : tm n) (w : Int) (a : Nat → List (Nat × Int)) (bg : Nat → Nat) (ns cnt : Nat) (I : Nat → Nat → Int) (Q : am_Q), 2 * n + 2 ≤ D → xq_fr F I → vl F J aT r m (r + 15) n i t w → xaC a bg ns cnt I → bg ρ + (a ρ).length = cnt → cns (a ρ ++ akf (al (fx (J (r + 7)) m) (nwc F r) n p t)) → cnt + (akf (al (fx (J (r + 7)) m) (nwc F r) n p t)).length ≤ 60 → (p + 2) * 4 ^ n ≤ 1000000 → (∀ (ns' : Nat) (I' : Nat → Nat → Int), xq_fr F I' → xaC (aup a ρ (akf (al (fx (J (r + 7)) m) (nwc F r) n p t))) bg ns' (cnt + (akf (al (fx (J (r + 7)) m) (nwc F r) n p t)).length) I' → Q none (n0, K, I', J, R)) → am_WP D (am_entry 83 [.inr (.inl 34), .inr (.inl r), .inl (ρ : Int), .inl (i : Int), .inl (p : Int)] (n0, K, I, J, R)) Q
def xq_L (n : Nat) : Prop := ∀ (ts : List (tm n)) (i p z D : Nat) (Wt : Nat → Int) (a : Nat → List (Nat × Int)) (bg : Nat → Nat) (ns cnt : Nat) (I : Nat → Nat → Int) (Q : am_Q) (x3 : Int), 2 * n + 3 ≤ D → xq_fr F I → ls_H (ft_H F J (r + 15) n) (tm_sz n) (F (r + 24)) i ts → ls_A (ft_G F (r + 15) (fx (J (r + 7)) m) n) (tm_sz n) i ts → (∀ t ∈ ts, tm_ok n t) → i + ls_sz (tm_sz n) ts ≤ 60 → tyl (tf (fx (J (r + 7)) m) (F (r + 5)) (F (r + 6)) aT n) ts Wt → z + ts.length ≤ 4 → xaC a bg ns cnt I → bg ρ + (a ρ).length = cnt → cns (a ρ ++ akf (ls_al (al (fx (J (r + 7)) m) (nwc F r) n) (p + z) ts)) → cnt + (akf (ls_al (al (fx (J (r + 7)) m) (nwc F r) n) (p + z) ts)).length ≤ 60 → (p + 5) * 4 ^ n ≤ 1000000 → (∀ (ns' : Nat) (I' : Nat → Nat → Int), xq_fr F I' → xaC (aup a ρ (akf (ls_al (al (fx (J (r + 7)) m) (nwc F r) n) (p + z) ts))) bg ns' (cnt + (akf (ls_al (al (fx (J (r + 7)) m) (nwc F r) n) (p + z) ts)).length) I' → Q none (n0, K, I', J, R)) → am_WP D (82, 6, [.inr (.inl 34), .inr (.inl r), .inl (ρ : Int), .inl x3, .inl (p : Int), .inl (bif ts.isEmpty then -1 else (i : Int)), .inl (z : Int)], [], (0, 0), n0, K, I, J, R) Q
end XCL
section XCM
variable {n0 : Nat} {K : Nat → am_K} {F J : Nat → Nat → Int} {R : Nat → Nat → Option Nat} {aT W : Nat → Int} {r m ρ s N wd : Nat}
theorem xq_list (n : Nat) (hB : am_B K R) (hr : r = 41 ∨ r = 71) (hX : xq_P n0 K F J R aT r m ρ n) : xq_L n0 K F J R aT r m ρ n := by
  intro ts
  induction ts with
  | nil =>
    intro i p z D Wt a bg ns cnt I Q x3 hD hF h1 h2 h3 h4 h5 hz hA hb hc hl hp post
    obtain ⟨d, rfl⟩ : ∃ d, D = d + 1 := ⟨D - 1, by omega⟩
    have fin : Q none (n0, K, I, J, R) := by
      refine post ns I hF ?_
      show xaC (aup a ρ []) bg ns (cnt + 0) I
      rw [aup_nil]; exact hA
    exact s_Asks_collectList_6 ⟨fun _ => fin, fun _ => ⟨fun _ => fin, fun h => absurd rfl h⟩⟩
  | cons t ts ih =>
    intro i p z D Wt a bg ns cnt I Q x3 hD hF h1 h2 h3 h4 h5 hz hA hb hc hl hp post
    obtain ⟨d, rfl⟩ : ∃ d, D = d + 1 := ⟨D - 1, by omega⟩
    have hz' : z + (ts.length + 1) ≤ 4 := hz
    have ez1 : ls_sz (tm_sz n) (t :: ts) = tm_sz n t + ls_sz (tm_sz n) ts := rfl
    have eal : ls_al (al (fx (J (r + 7)) m) (nwc F r) n) (p + z) (t :: ts) = al (fx (J (r + 7)) m) (nwc F r) n (p + z) t ++ ls_al (al (fx (J (r + 7)) m) (nwc F r) n) (p + z + 1) ts := rfl
    have pt := tm_sz_pos n t
    have k0 : K r = .inl 5 := am_kq (i := 0) hB hr (by decide) rfl
    have k15 : K (r + 15) = .inl 7 := am_kq (i := 15) hB hr (by decide) rfl
    have ixi : (0 : Int) ≤ (i : Int) ∧ (i : Int) < ((60 : Nat) : Int) := ⟨by omega, by omega⟩
    have hp4 : p + 5 ≤ 1000000 := by
      have : 1 ≤ 4 ^ n := Nat.one_le_pow _ _ (by decide)
      have := Nat.mul_le_mul_left (p + 5) this
      omega
    rw [eal, akf_app] at hc hl post
    rw [List.length_append] at hl post
    rw [← List.append_assoc] at hc
    refine s_Asks_collectList_6 ⟨fun h => absurd h (by omega), fun _ => ⟨fun h => absurd (show (i : Int) = -1 from h) (by omega), fun _ => am_ar_i (by omega) (by omega) ?_⟩⟩
    rw [show (p : Int) + (z : Int) = ((p + z : Nat) : Int) by omega]
    refine ⟨(am_kk hB rfl), ?_⟩
    show am_WP d (am_entry 83 [.inr (.inl 34), .inr (.inl r), .inl (ρ : Int), .inl (i : Int), .inl ((p + z : Nat) : Int)] (n0, K, I, J, R)) _
    refine hX i (p + z) d t (Wt 0) a bg ns cnt I _ (by omega) hF ⟨h1.1, h2.1, h3 t List.mem_cons_self, h5.1, by omega⟩ hA hb (cns_app hc) (by omega) (Nat.le_trans (Nat.mul_le_mul_right _ (by omega)) hp) (fun ns1 I1 f1 A1 => ⟨rfl, ?_⟩)
    have n1 : I1 (r + 24) i = (bif ts.isEmpty then -1 else ((i + tm_sz n t : Nat) : Int)) := (congrFun (f1 (r + 24) (by omega)) i).trans h1.2.1
    refine s_Asks_collectList_31 ⟨k0, r + 15, am_rq (i := 0) hB hr rfl rfl, k15, r + 24, am_rq (i := 15) hB hr rfl rfl, _, am_kq (i := 24) hB hr (by decide) rfl, ixi, am_nm_k n1 ?_⟩
    rintro _ rfl _ _
    refine am_ar_i (by omega) (by omega) ?_
    refine ih (i + tm_sz n t) p (z + 1) (d + 1) (fun i => Wt (i + 1)) _ bg ns1 _ I1 Q x3 (by omega) f1 h1.2.2 h2.2 (fun y hy => h3 y (List.mem_cons_of_mem _ hy)) (by omega) h5.2 (by omega) A1 ?_ ?_ ?_ hp ?_
    · rw [aup_eq, List.length_append]; omega
    · rw [aup_eq, show p + (z + 1) = p + z + 1 by omega]; exact hc
    · rw [show p + (z + 1) = p + z + 1 by omega]; omega
    · rw [show p + (z + 1) = p + z + 1 by omega]
      intro ns2 I2 f2 A2
      rw [aup_aup, Nat.add_assoc cnt] at A2
      exact post ns2 I2 f2 A2
theorem x_isCon {d i : Nat} {kd : Int} {I : Nat → Nat → Int} {Q : am_Q} (hB : am_B K R) (hr : r = 41 ∨ r = 71) (hi : i < 60) (hk : I (r + 16) i = kd) (yes : kd = 5 ∨ kd = 6 → Q (some (.inl 1)) (n0, K, I, J, R)) (no : ¬ (kd = 5 ∨ kd = 6) → Q (some (.inl 0)) (n0, K, I, J, R)) : am_WP d (am_entry 137 [.inr (.inl (r + 15)), .inl (i : Int)] (n0, K, I, J, R)) Q := by
  have k15 : K (r + 15) = .inl 7 := am_kq (i := 15) hB hr (by decide) rfl
  have ixi : (0 : Int) ≤ (i : Int) ∧ (i : Int) < ((60 : Nat) : Int) := ⟨by omega, by omega⟩
  refine e_Terms_isCon ⟨k15, r + 16, am_rq (i := 15) hB hr rfl rfl, _, am_kq (i := 16) hB hr (by decide) rfl, ixi, am_nm_k hk (fun z hz _ _ => ?_)⟩
  subst hz
  refine ⟨fun k5 => s_Terms_isCon_26 ⟨Or.inr rfl, yes (Or.inl k5)⟩, fun n5 => ⟨k15, r + 16, am_rq (i := 15) hB hr rfl rfl, _, am_kq (i := 16) hB hr (by decide) rfl, ixi, am_nm_k hk (fun z' hz' _ _ => ?_)⟩⟩
  subst hz'
  exact ⟨fun n6 => s_Terms_isCon_26 ⟨Or.inl rfl, no (by omega)⟩, fun k6 => s_Terms_isCon_26 ⟨Or.inr rfl, yes (Or.inr k6)⟩⟩
theorem xq_step (n : Nat) (hB : am_B K R) (hr : r = 41 ∨ r = 71) (hρ : ρ < 12) (hE : rE F aT W r s N m wd) (hX : xq_P n0 K F J R aT r m ρ n) (hL : xq_L n0 K F J R aT r m ρ n) : xq_P n0 K F J R aT r m ρ (n + 1) := by
  intro i p D t w a bg ns cnt I Q hD hF ht hA hbc hc hl hb post
  obtain ⟨d, rfl⟩ : ∃ d, D = d + 4 := ⟨D - 4, by omega⟩
  have k0 : K r = .inl 5 := am_kq (i := 0) hB hr (by decide) rfl
  have k15 : K (r + 15) = .inl 7 := am_kq (i := 15) hB hr (by decide) rfl
  have ht0 := ht
  obtain ⟨tH, tG, tO, tF, t60⟩ := ht
  have ez : tm_sz (n + 1) t = 1 + ls_sz (tm_sz n) (tm_k t) := rfl
  obtain ⟨q1, q2, q3, q4, q5, q6, q7, q8⟩ := tH
  have ixi : (0 : Int) ≤ (i : Int) ∧ (i : Int) < ((60 : Nat) : Int) := ⟨by omega, by omega⟩
  have g1 : I (r + 16) i = (tm_l t).1 := (congrFun (hF _ (by omega)) i).trans q1
  have g8 : I (r + 23) i = (bif (tm_k t).isEmpty then -1 else ((i + 1 : Nat) : Int)) := (congrFun (hF _ (by omega)) i).trans q7
  have hmm := hE.2.2.1
  have e4 : 4 ^ (n + 1) = 4 * 4 ^ n := by rw [Nat.pow_succ]; omega
  have hp1 : (p + 2) * 4 ^ n ≤ 1000000 := by
    rw [e4] at hb
    have : (p + 2) * 4 ^ n ≤ (p + 2) * (4 * 4 ^ n) := Nat.mul_le_mul_left _ (by omega)
    omega
  have hp4 : (4 * p + 1 + 5) * 4 ^ n ≤ 1000000 := by
    rw [e4] at hb
    have : (4 * p + 1 + 5) * 4 ^ n ≤ (4 * (p + 2)) * 4 ^ n := Nat.mul_le_mul_right _ (by omega)
    have e : (4 * (p + 2)) * 4 ^ n = (p + 2) * (4 * 4 ^ n) := by
      rw [Nat.mul_comm 4 (p + 2), Nat.mul_assoc]
    omega
  have hpp : p ≤ 250000 := by
    have h1 : 1 ≤ 4 ^ n := Nat.one_le_pow _ _ (by decide)
    have := Nat.mul_le_mul_left (4 * p + 1 + 5) h1
    omega
  -- a pat of one kid
  have kid : ∀ x : tm n, tm_k t = [x] → ¬ ((tm_l t).1 = 4 ∨ (tm_l t).1 = 5 ∨ (tm_l t).1 = 6) → vl F J aT r m (r + 15) n (i + 1) x w := by
    intro x hx hk
    rw [hx] at q8 ez
    have hg := tG.2
    rw [hx] at hg
    have tF' := tF
    unfold tf at tF'
    rw [if_neg (by omega), if_neg (by omega), hx] at tF'
    have ez2 : ls_sz (tm_sz n) [x] = tm_sz n x + 0 := rfl
    refine ⟨q8.1, hg.1, ?_, tF', by omega⟩
    rcases tO.2.2.2 with q | q | q | q
    · rw [hx] at q; exact absurd q.2 (by simp)
    · omega
    · obtain ⟨_, y, e, hy⟩ := q
      rw [hx] at e
      have := (List.cons.inj e).1
      rw [this]; exact hy
    · omega
  have one : ((tm_l t).1 = 1 ∨ (tm_l t).1 = 2 ∨ (tm_l t).1 = 3) → ∃ x : tm n, tm_k t = [x] := by
    intro hk
    rcases tO.2.2.2 with q | q | q | q
    · omega
    · omega
    · obtain ⟨_, y, e, _⟩ := q
      exact ⟨y, e⟩
    · omega
  -- going on with the one kid
  have down : ∀ (x : tm n) (w' : Int), tm_k t = [x] → vl F J aT r m (r + 15) n (i + 1) x w' → akf (al (fx (J (r + 7)) m) (nwc F r) (n + 1) p t) = akf (al (fx (J (r + 7)) m) (nwc F r) n p x) → am_WP (d + 4) (83, 72, [.inr (.inl 34), .inr (.inl r), .inl (ρ : Int), .inl (i : Int), .inl (p : Int), .inr (.inl (r + 15)), .inl (tm_l t).1, .inl (bif (tm_k t).isEmpty then -1 else ((i + 1 : Nat) : Int))], [], (0, 0), n0, K, I, J, R) Q := by
    intro x w' hx hv eal
    rw [eal] at hc hl post
    rw [hx]
    refine s_Asks_collectPat_72 ⟨fun h => absurd (show ((i + 1 : Nat) : Int) = -1 from h) (by omega), fun _ => ⟨(am_kk hB rfl), ?_⟩⟩
    refine hX (i + 1) p (d + 3) x w' a bg ns cnt I _ (by omega) hF hv hA hbc hc hl hp1 (fun ns1 I1 f1 A1 => ⟨rfl, s_Asks_collectPat_88 (s_Asks_collectPat_128 (post ns1 I1 f1 A1))⟩)
  have nothing : al (fx (J (r + 7)) m) (nwc F r) (n + 1) p t = [] → Q none (n0, K, I, J, R) := by
    intro e
    have := post ns I hF
    rw [e] at this
    refine this ?_
    show xaC (aup a ρ []) bg ns (cnt + 0) I
    rw [aup_nil]; exact hA
  refine e_Asks_collectPat ⟨k0, r + 15, am_rq (i := 0) hB hr rfl rfl, k15, r + 16, am_rq (i := 15) hB hr rfl rfl, _, am_kq (i := 16) hB hr (by decide) rfl, ixi, am_nm_k g1 ?_⟩
  rintro _ rfl _ _
  refine ⟨k15, r + 23, am_rq (i := 15) hB hr rfl rfl, _, am_kq (i := 23) hB hr (by decide) rfl, ixi, am_nm_k g8 ?_⟩
  rintro _ rfl _ _
  refine ⟨fun n4 => ⟨fun z2 => ?_, fun n2 => ⟨fun z3 => ?_, fun n3 => ⟨k0, ?_⟩⟩⟩, fun z4 => ?_⟩
  · obtain ⟨x, hx⟩ := one (Or.inr (Or.inl z2))
    refine down x w hx (kid x hx (by omega)) ?_
    rw [al_u, if_pos z2, akf_look rfl, hx]
    show akf (al _ _ n p x ++ []) = _
    rw [List.append_nil]
  · obtain ⟨x, hx⟩ := one (Or.inr (Or.inr z3))
    refine down x w hx (kid x hx (by omega)) ?_
    rw [al_u, if_neg (by omega), if_pos z3, hx]
    show akf (al _ _ n p x ++ []) = _
    rw [List.append_nil]
  · refine x_isNew (F := I) hB hr (Or.inr rfl) (rE_q hr hF hE) (vl_q hr (by omega) hF ht0) tr_refl (fun hk hn => ⟨_, rfl, s_Asks_collectPat_69 ⟨fun h => absurd h (by decide), fun _ => ?_⟩⟩) (fun hn => ⟨_, rfl, s_Asks_collectPat_69 ⟨fun _ => ⟨k15, x_isCon hB hr (by omega) g1 (fun hk => ⟨_, rfl, s_Asks_collectPat_97 ⟨fun h => absurd h (by decide), fun _ => ?_⟩⟩) (fun hk => ⟨_, rfl, s_Asks_collectPat_97 ⟨fun _ => s_Asks_collectPat_128 (nothing ?_), fun h => absurd rfl h⟩⟩)⟩, fun h => absurd rfl h⟩⟩)
    · rw [nwc_q hr hF] at hn
      obtain ⟨c, x, hc', x1, x2, k6, hks, hx, -⟩ := vl_new hE ht0 hk hn
      refine down x (aT (3 * c)) hks hx ?_
      rw [al_u, if_neg (by omega), if_neg (by omega), if_neg (by omega), if_pos hk, if_pos hn, hks]
      show akf (al _ _ n p x ++ []) = _
      rw [List.append_nil]
    · rw [nwc_q hr hF] at hn
      have hn2 : ¬ nwc F r (fx (J (r + 7)) m (tm_l t).2.2.2.2.1) = true := fun q => hn ⟨hk, q⟩
      obtain ⟨c, hc', x1, x2, x3, x4, x5⟩ := vl_con ht0 hk
      have x3' : I (r + 22) i = (c : Int) := (congrFun (hF _ (by omega)) i).trans x3
      have eal : akf (al (fx (J (r + 7)) m) (nwc F r) (n + 1) p t) = [(p, (c : Int))] ++ akf (ls_al (al (fx (J (r + 7)) m) (nwc F r) n) (4 * p + 1 + 0) (tm_k t)) := by
        rw [al_u, if_neg (by omega), if_neg (by omega), if_neg (by omega), if_pos hk, if_neg hn2, x1, akf_ask (by show (c : Int) ≠ -1; omega)]
        rfl
      rw [eal] at hc hl post
      rw [List.length_append] at hl post
      rw [← List.append_assoc] at hc
      have l1 : ([(p, (c : Int))] : List (Nat × Int)).length = 1 := rfl
      have ecc : ec (c : Int) = (c : Int) := if_pos (by omega)
      refine ⟨k15, r + 22, am_rq (i := 15) hB hr rfl rfl, _, am_kq (i := 22) hB hr (by decide) rfl, ixi, am_nm_k x3' ?_⟩
      rintro _ rfl _ _
      refine ⟨(am_kk hB rfl), ?_⟩
      rw [← ecc]
      refine x_ask hB hA hρ hbc (cns_app hc) (by omega) (fun ns1 I1 f1 A1 => ⟨rfl, s_Asks_collectPat_114 (am_ar_i (by omega) (by omega) (am_ar_i (by omega) (by omega) ?_))⟩)
      rw [show (4 : Int) * (p : Int) + 1 = ((4 * p + 1 : Nat) : Int) by omega]
      refine ⟨(am_kk hB rfl), e_Asks_collectList ?_⟩
      have tyk : tyl (tf (fx (J (r + 7)) m) (F (r + 5)) (F (r + 6)) aT n) (tm_k t) (fun i => aT (3 * c + i)) ∧ (tm_k t).length ≤ 3 ∧ ∀ x ∈ tm_k t, tm_ok n x := by
        rcases hk with k5 | k6
        · rw [(x4 k5).2]; exact ⟨trivial, Nat.zero_le _, fun x hx => absurd hx (by simp)⟩
        · obtain ⟨y1, y2⟩ := x5 k6
          obtain ⟨y3, y4⟩ := tyl_of _ _ _ y1
          obtain ⟨-, ar0, ar1, -⟩ := hE.2.2.2.2.2.1 c hc'
          exact ⟨y3, by omega, y2⟩
      refine hL (tm_k t) (i + 1) (4 * p + 1) 0 (d + 3) (fun i => aT (3 * c + i)) _ bg ns1 (cnt + 1) I1 _ _ (by omega) (xq_trans hF f1) q8 tG.2 tyk.2.2 (by omega) tyk.1 (by omega) A1 ?_ ?_ (by omega) hp4 (fun ns2 I2 f2 A2 => ⟨rfl, s_Asks_collectPat_128 (post ns2 I2 f2 ?_)⟩)
      · rw [aup_eq, List.length_append]; omega
      · rw [aup_eq]; exact hc
      · rw [aup_aup, Nat.add_assoc cnt] at A2
        exact A2
    · rw [al_u, if_neg (by omega), if_neg (by omega), if_neg (by omega), if_neg (by omega)]
  · have n999 : 0 ≤ (tm_l t).2.2.2.2.2 ∧ (tm_l t).2.2.2.2.2 ≤ 999 := by
      rcases tO.2.2.2 with q | q | q | q
      · omega
      · exact q.2.2
      · omega
      · omega
    have g7 : I (r + 21) i = (tm_l t).2.2.2.2.2 := (congrFun (hF _ (by omega)) i).trans q6
    have eal : akf (al (fx (J (r + 7)) m) (nwc F r) (n + 1) p t) = [(p, 100 + (tm_l t).2.2.2.2.2)] := by
      rw [al_u, if_neg (by omega), if_neg (by omega), if_pos z4, akf_ask (by show 100 + (tm_l t).2.2.2.2.2 ≠ -1; omega)]
      rfl
    rw [eal] at hc hl post
    have ecn : ec (100 + (tm_l t).2.2.2.2.2) = 36 + (tm_l t).2.2.2.2.2 := by
      unfold ec
      rw [if_neg (by omega)]; omega
    refine ⟨k15, r + 21, am_rq (i := 15) hB hr rfl rfl, _, am_kq (i := 21) hB hr (by decide) rfl, ixi, am_nm_k g7 (fun z hz _ _ => am_ar_i (by omega) (by omega) ⟨(am_kk hB rfl), ?_⟩)⟩
    subst hz
    rw [← ecn]
    have l1 : ([(p, 100 + (tm_l t).2.2.2.2.2)] : List (Nat × Int)).length = 1 := rfl
    exact x_ask hB hA hρ hbc hc (by omega) (fun ns1 I1 f1 A1 => ⟨rfl, s_Asks_collectPat_47 (s_Asks_collectPat_128 (post ns1 I1 (xq_trans hF f1) A1))⟩)
theorem xq_all (hB : am_B K R) (hr : r = 41 ∨ r = 71) (hρ : ρ < 12) (hE : rE F aT W r s N m wd) : ∀ n : Nat, xq_P n0 K F J R aT r m ρ n := by
  intro n
  induction n with
  | zero => intro i p D t; exact t.elim
  | succ n ih => exact xq_step n hB hr hρ hE ih (xq_list n hB hr ih)
end XCM
