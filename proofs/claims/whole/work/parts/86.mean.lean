/-! MEANING: the class looks for a fault in a set -/
def rsf (cof : Int → Int) (cT ar aT : Nat → Int) (W : Nat → Int) (wd : Nat) : List rw0 → Option Int
  | [] => none
  | w :: ws => oe (ls_f (tf cof cT ar aT 6) (tm_at 6) w.2.2 W wd w.1) (rsf cof cT ar aT W wd ws)
def rs_G (I : Nat → Nat → Int) (b : Nat) (cof : Int → Int) : Nat → List rw0 → Prop
  | _, [] => True
  | m, w :: ws => ls_A (ft_G I b cof 6) (tm_sz 6) m w.1 ∧ rs_G I b cof (m + rw_sz w) ws
def rw_ok (w : rw0) : Prop := w.1 ≠ [] ∧ 0 ≤ w.2.2 ∧ ∀ t ∈ w.1, tm_ok 6 t
theorem ls_f_nn {cof : Int → Int} {cT ar aT : Nat → Int} {k e : Int} {n : Nat} : ∀ (ts : List (tm n)) (m : Nat) (W : Nat → Int), 0 ≤ e → (∀ t ∈ ts, tm_ok n t) → ls_f (tf cof cT ar aT n) (tm_at n) e W m ts = some k → 0 ≤ k := by
  intro ts
  induction ts with
  | nil =>
    intro m W he _ h
    cases m with
    | zero => exact absurd h (by simp [ls_f])
    | succ m =>
      have : some e = some k := h
      have := Option.some.inj this
      omega
  | cons t ts ih =>
    intro m W he ho h
    have h3 := ho t List.mem_cons_self
    cases m with
    | zero =>
      have h' : some (tm_at n t) = some k := h
      have h2 := Option.some.inj h'
      cases n with
      | zero => exact h3.elim
      | succ n =>
        have h4 : tm_at (n + 1) t = (tm_l t).2.1 := rfl
        have := h3.1
        omega
    | succ m =>
      have h' : oe (tf cof cT ar aT n (W 0) t) (ls_f (tf cof cT ar aT n) (tm_at n) e (fun i => W (i + 1)) m ts) = some k := h
      rcases hc : tf cof cT ar aT n (W 0) t with _ | k'
      · rw [hc] at h'
        exact ih m _ he (fun u hu => ho u (List.mem_cons_of_mem _ hu)) h'
      · rw [hc] at h'
        have : some k' = some k := h'
        have e2 := Option.some.inj this
        subst e2
        exact tf_nn n _ t h3 hc
section XFS
variable {d n : Nat} {K : Nat → am_K} {I J : Nat → Nat → Int} {R : Nat → Nat → Option Nat} {Q : am_Q} {pl nu nm : Nat → Int} {g cT ar aT : Nat → Int} {r m : Nat}
theorem x_ffRow {b i wd : Nat} {e : Int} {ts : List (tm 6)} {W : Nat → Int} (hB : am_B K R) (hr : r = 41 ∨ r = 71) (hb : b = 19 ∨ b = r + 15) (hm : m ≤ 36) (har : ∀ c : Nat, c < m → 0 ≤ ar c ∧ ar c ≤ 3) (hw : I r 2 = (wd : Int)) (hw4 : wd ≤ 4) (hW : ∀ z : Nat, z < wd → I (r + 26) z = W z) (hH : ls_H (ft_H I J b 6) (tm_sz 6) (I (b + 9)) i ts) (hne : ts ≠ []) (ho : ∀ t ∈ ts, tm_ok 6 t) (h60 : i + ls_sz (tm_sz 6) ts ≤ 60) (he : xe g cT ar aT r m I J)
    (post : ∀ I' : Nat → Nat → Int, (∀ x j : Nat, ¬ (x = b + 7 ∧ i ≤ j ∧ j < i + ls_sz (tm_sz 6) ts) → I' x j = I x j) → (ls_f (tf (fx g m) cT ar aT 6) (tm_at 6) e W wd ts = none → ls_A (ft_G I' b (fx g m) 6) (tm_sz 6) i ts) → Q (some (.inl (oi (ls_f (tf (fx g m) cT ar aT 6) (tm_at 6) e W wd ts)))) (n, K, I', J, R)) : am_WP (d + 15) (am_entry 112 [.inr (.inl r), .inr (.inl b), .inl (i : Int), .inl e] (n, K, I, J, R)) Q := by
  have k0 : K r = .inl 5 := am_kq (i := 0) hB hr (by decide) rfl
  refine e_Rules_findFaultInRow ⟨k0, r + 26, am_rq (i := 0) hB hr rfl rfl, k0, am_nm_k hw ?_⟩
  rintro _ rfl _ _
  have gg := (xg_all (g := g) (cT := cT) (ar := ar) (aT := aT) (r := r) (m := m) 6).2 n K R (fun v3 s4 => ∃ z5 : Int, v3 = some (.inl z5) ∧ am_WP (d + 15) (112, 16, [.inr (.inl r), .inr (.inl b), .inl (i : Int), .inl e], [.inl z5], (0, 0), s4) Q) b (r + 26) 4 0 wd e (i : Int) J (d + 14) hB hr hb hm har (am_kq hB hr (by decide) rfl) (by omega) (by omega) (by decide) (by omega) ts 0 i I W (Nat.zero_le _) (fun z hz => by rw [Nat.zero_add]; exact hW z (by omega)) hH ho h60 he (fun I' f1 p1 => ⟨_, rfl, s_Rules_findFaultInRow_16 (post I' f1 p1)⟩)
  have ee : ts.isEmpty = false := by cases ts with
    | nil => exact absurd rfl hne
    | cons _ _ => rfl
  rw [ee] at gg
  exact ⟨k0, e_Rules_findFaultInList gg⟩
theorem x_ffRows {wd : Nat} {W : Nat → Int} {N : Nat} (hB : am_B K R) (hr : r = 41 ∨ r = 71) (hm : m ≤ 36) (har : ∀ c : Nat, c < m → 0 ≤ ar c ∧ ar c ≤ 3) (hw4 : wd ≤ 4) (hN : N ≤ 12) : ∀ (ws : List rw0) (ρ i : Nat) (I : Nat → Nat → Int), I r 3 = (N : Int) → ρ + ws.length = N → I r 2 = (wd : Int) → (∀ z : Nat, z < wd → I (r + 26) z = W z) → xw_rows I J r ρ i ws → (∀ w ∈ ws, rw_ok w) → i + rs_sz ws ≤ 60 → xe g cT ar aT r m I J →
    (∀ I' : Nat → Nat → Int, (∀ x j : Nat, ¬ (x = r + 22 ∧ i ≤ j) → I' x j = I x j) → (rsf (fx g m) cT ar aT W wd ws = none → rs_G I' (r + 15) (fx g m) i ws) → Q (some (.inl (oi (rsf (fx g m) cT ar aT W wd ws)))) (n, K, I', J, R)) → am_WP (d + 16) (111, 71, [.inr (.inl r), .inl (-1), .inl (ρ : Int)], [], (0, 0), n, K, I, J, R) Q := by
  have k0 : K r = .inl 5 := am_kq (i := 0) hB hr (by decide) rfl
  intro ws
  induction ws with
  | nil =>
    intro ρ i I h3 hρ h2 hW hs ho h60 he post
    have hρ : ρ + 0 = N := hρ
    refine s_Rules_findFault_71 ⟨k0, am_nm_k h3 ?_⟩
    rintro _ rfl _ _
    exact ⟨fun _ => post I (fun _ _ _ => rfl) (fun _ => trivial), fun h => absurd h (by omega)⟩
  | cons w ws ih =>
    intro ρ i I h3 hρ h2 hW hs ho h60 he post
    have hρ : ρ + (ws.length + 1) = N := hρ
    obtain ⟨s1, s2, s3, s4⟩ := hs
    obtain ⟨o1, o2, o3⟩ := ho w List.mem_cons_self
    have es : rs_sz (w :: ws) = rw_sz w + rs_sz ws := rfl
    have ew : rw_sz w = ls_sz (tm_sz 6) w.1 := rfl
    refine s_Rules_findFault_71 ⟨k0, am_nm_k h3 ?_⟩
    rintro _ rfl _ _
    refine ⟨fun h => absurd h (by omega), fun _ => ⟨fun h => absurd rfl h, fun _ => ⟨k0, r + 15, am_rq (i := 0) hB hr rfl rfl, k0, r + 25, am_rq (i := 0) hB hr rfl rfl, _, am_kq hB hr (by decide) rfl, ⟨by omega, by omega⟩, am_nm_k s1 ?_⟩⟩⟩
    rintro _ rfl _ _
    refine ⟨k0, r + 29, am_rq (i := 0) hB hr rfl rfl, _, am_kq hB hr (by decide) rfl, ⟨by omega, by omega⟩, am_nm_k s2 ?_⟩
    rintro _ rfl _ _
    refine ⟨k0, x_ffRow (b := r + 15) (W := W) hB hr (Or.inr rfl) hm har h2 hw4 hW s3 o1 o3 (by omega) he (fun I1 f1 p1 => ⟨_, rfl, s_Rules_findFault_104 (am_ar_i (by omega) (by omega) ?_)⟩)⟩
    have el : rsf (fx g m) cT ar aT W wd (w :: ws) = oe (ls_f (tf (fx g m) cT ar aT 6) (tm_at 6) w.2.2 W wd w.1) (rsf (fx g m) cT ar aT W wd ws) := rfl
    rcases hc : ls_f (tf (fx g m) cT ar aT 6) (tm_at 6) w.2.2 W wd w.1 with _ | k
    · rw [hc] at el
      have el : rsf (fx g m) cT ar aT W wd (w :: ws) = rsf (fx g m) cT ar aT W wd ws := el
      have fr : ∀ x j : Nat, x ≠ r + 22 → I1 x j = I x j := fun x j h => f1 x j (by omega)
      have xr : ∀ (us : List rw0) (ρ' i' : Nat), i + rw_sz w ≤ i' → xw_rows I J r ρ' i' us → xw_rows I1 J r ρ' i' us := by
        intro us
        induction us with
        | nil => intro _ _ _ _; exact trivial
        | cons u us ih2 =>
          intro ρ' i' hi hu
          obtain ⟨u1, u2, u3, u4⟩ := hu
          exact ⟨(fr _ _ (by omega)).trans u1, (fr _ _ (by omega)).trans u2, ft_HL_frame u3 (fun x j a1 a2 a3 a4 => f1 x j (by omega)) (fun _ _ _ => rfl), ih2 _ _ (by omega) u4⟩
      refine ih (ρ + 1) (i + rw_sz w) I1 ((fr _ _ (by omega)).trans h3) (by omega) ((fr _ _ (by omega)).trans h2) (fun z hz => (fr _ _ (by omega)).trans (hW z hz)) (xr ws _ _ (Nat.le_refl _) s4) (fun u hu => ho u (List.mem_cons_of_mem _ hu)) (by omega) (xe_fr (b := r + 15) (Or.inr rfl) hr he (fun x j h => fr x j (by omega))) (fun I2 f2 p2 => ?_)
      have := post I2 (fun x j h => (f2 x j (by omega)).trans (f1 x j (by omega))) (fun hn => ⟨ft_GL_fr w.1 i (p1 hc) (fun j a1 a2 => f2 _ _ (by omega)), p2 (el.symm.trans hn)⟩)
      rw [el] at this
      exact this
    · rw [hc] at el
      have el : rsf (fx g m) cT ar aT W wd (w :: ws) = some k := el
      have nn := ls_f_nn w.1 wd W o2 o3 hc
      have fr : ∀ x j : Nat, x ≠ r + 22 → I1 x j = I x j := fun x j h => f1 x j (by omega)
      have fin : Q (some (.inl k)) (n, K, I1, J, R) := by
        have := post I1 (fun x j h => f1 x j (by omega)) (fun hn => absurd (el.symm.trans hn) (by simp))
        rw [el] at this
        exact this
      refine s_Rules_findFault_71 ⟨k0, am_nm_k ((fr _ _ (by omega)).trans h3) ?_⟩
      rintro _ rfl _ _
      exact ⟨fun _ => fin, fun _ => ⟨fun _ => fin, fun h => absurd (show k = -1 from h) (by omega)⟩⟩
end XFS
/-- types and columns are without fault -/
def xm_env (pl nu nm : Nat → Int) (I I' J : Nat → Nat → Int) (r : Nat) (t : st0) : Prop := tsf (lx (I (r + 9)) t.1.length) (fx (J (r + 7)) (ts_cn t.1)) pl nu nm 0 0 0 t.1 = none ∧ ta_ok (lx (I (r + 9)) t.1.length) I' r nu 0 0 t.1 ∧ arf (lx (I (r + 9)) t.1.length) pl nu (ts_sz t.1 + 1) t.2.1 = none ∧ ∀ z : Nat, z < t.2.1 → I' (r + 26) z = lx (I (r + 9)) t.1.length (nu (ts_sz t.1 + 1 + z))
def xm_rows (I I' J : Nat → Nat → Int) (r : Nat) (t : st0) : Option Int := rsf (fx (J (r + 7)) (ts_cn t.1)) (I (r + 5)) (I (r + 6)) (I' (r + 8)) (I' (r + 26)) t.2.1 t.2.2
def xm_fr (r : Nat) (I I' : Nat → Nat → Int) : Prop := ∀ a j : Nat, a ≠ r + 8 → a ≠ r + 14 → a ≠ r + 22 → a ≠ r + 26 → I' a j = I a j
theorem ta_ok_cg {tyf : Int → Int} {I I' : Nat → Nat → Int} {r : Nat} {nu : Nat → Int} (h : ∀ j : Nat, I' (r + 8) j = I (r + 8) j) : ∀ (ts : List ty) (C p : Nat), ta_ok tyf I r nu C p ts → ta_ok tyf I' r nu C p ts := by
  have cg : ∀ (as : List Nat) (C q : Nat), ca_ok tyf I r nu C q as → ca_ok tyf I' r nu C q as := by
    intro as
    induction as with
    | nil => intro C q _; exact trivial
    | cons a as ih => intro C q hca; exact ⟨fun z hz => ⟨(h _).trans (hca.1 z hz).1, (hca.1 z hz).2⟩, ih _ _ hca.2⟩
  intro ts
  induction ts with
  | nil => intro C p _; exact trivial
  | cons t ts ih => intro C p ht; exact ⟨cg _ _ _ ht.1, ih _ _ ht.2⟩
/-- what is stored of constructors: how many arguments -/
theorem xs_ar {I J : Nat → Nat → Int} {r : Nat} {pl nu nm : Nat → Int} : ∀ (ts : List ty) (T C p : Nat), xs_types I J r pl nu nm T C p ts → ts_rg pl nu p ts → ∀ c : Nat, C ≤ c → c < C + ts_cn ts → 0 ≤ I (r + 6) c ∧ I (r + 6) c ≤ 3 := by
  have cg : ∀ (as : List Nat) (T C q : Nat), xs_cons I J r pl nu nm T C q as → cs_rg pl nu q as → ∀ c : Nat, C ≤ c → c < C + as.length → 0 ≤ I (r + 6) c ∧ I (r + 6) c ≤ 3 := by
    intro as
    induction as with
    | nil => intro T C q _ _ c h1 h2; exact absurd h2 (by show ¬ (c < C + 0); omega)
    | cons a as ih =>
      intro T C q h g c h1 h2
      have h2 : c < C + (as.length + 1) := h2
      by_cases e : c = C
      · rw [e, h.2.1]
        have := g.1
        omega
      · exact ih T (C + 1) _ h.2.2.2.2.2 g.2.2.2 c (by omega) (by omega)
  intro ts
  induction ts with
  | nil => intro T C p _ _ c h1 h2; exact absurd h2 (by show ¬ (c < C + 0); omega)
  | cons t ts ih =>
    intro T C p h g c h1 h2
    have h2 : c < C + (t.2.length + ts_cn ts) := h2
    by_cases e : c < C + t.2.length
    · exact cg t.2 T C (p + 3) h.2.2.2.2.2.1 g.2.2.1 c h1 e
    · exact ih (T + 1) (C + t.2.length) _ h.2.2.2.2.2.2 g.2.2.2 c (by omega) (by omega)
section XFT
variable {d n : Nat} {K : Nat → am_K} {I J : Nat → Nat → Int} {R : Nat → Nat → Option Nat} {Q : am_Q} {pl nu nm : Nat → Int} {r : Nat}
theorem x_findFault {t : st0} (hB : am_B K R) (hr : r = 41 ∨ r = 71) (ht : xst pl nu nm I J r t) (h6 : t.1.length ≤ 6) (h36 : ts_cn t.1 ≤ 36) (hg : ts_rg pl nu 0 t.1) (hw4 : t.2.1 ≤ 4) (hcr : ∀ z : Nat, z < t.2.1 → (0 ≤ nu (ts_sz t.1 + 1 + z) ∧ nu (ts_sz t.1 + 1 + z) ≤ 25) ∧ 0 ≤ pl (ts_sz t.1 + 1 + z)) (h12 : t.2.2.length ≤ 12) (ho : ∀ w ∈ t.2.2, rw_ok w) (h60 : rs_sz t.2.2 ≤ 60)
    (bad1 : ∀ (I' : Nat → Nat → Int) (k : Int), xm_fr r I I' → tsf (lx (I (r + 9)) t.1.length) (fx (J (r + 7)) (ts_cn t.1)) pl nu nm 0 0 0 t.1 = some k → 0 ≤ k → Q (some (.inl k)) (n, K, I', J, R))
    (bad2 : ∀ (I' : Nat → Nat → Int) (k : Int), xm_fr r I I' → tsf (lx (I (r + 9)) t.1.length) (fx (J (r + 7)) (ts_cn t.1)) pl nu nm 0 0 0 t.1 = none → arf (lx (I (r + 9)) t.1.length) pl nu (ts_sz t.1 + 1) t.2.1 = some k → 0 ≤ k → Q (some (.inl k)) (n, K, I', J, R))
    (rows : ∀ I' : Nat → Nat → Int, xm_fr r I I' → xm_env pl nu nm I I' J r t → (xm_rows I I' J r t = none → rs_G I' (r + 15) (fx (J (r + 7)) (ts_cn t.1)) 0 t.2.2) → (∀ k : Int, xm_rows I I' J r t = some k → 0 ≤ k) → Q (some (.inl (oi (xm_rows I I' J r t)))) (n, K, I', J, R)) : am_WP (d + 17) (am_entry 111 [.inr (.inl r)] (n, K, I, J, R)) Q := by
  have k0 : K r = .inl 5 := am_kq (i := 0) hB hr (by decide) rfl
  have k1 : K (r + 1) = .inl 10 := am_kq (i := 1) hB hr (by decide) rfl
  have nb : am_nc ≤ r := by unfold am_nc; omega
  obtain ⟨t1, t2, t3, t4, t5, t6, t7, t8, t9⟩ := ht
  have skip : ∀ (k : Int) (I' : Nat → Nat → Int) (x : Nat), 0 ≤ k → I' r 2 = (t.2.1 : Int) → I' r 3 = (t.2.2.length : Int) → Q (some (.inl k)) (n, K, I', J, R) → am_WP (d + 17) (111, 10, [.inr (.inl r), .inl k, .inl (x : Int)], [], (0, 0), n, K, I', J, R) Q := by
    intro k I' x hk q2 q3 hQ
    have s69 : am_WP (d + 17) (111, 69, [.inr (.inl r), .inl k, .inl (x : Int)], [], (0, 0), n, K, I', J, R) Q := by
      refine s_Rules_findFault_69 (s_Rules_findFault_71 ⟨k0, am_nm_k q3 ?_⟩)
      rintro _ rfl _ _
      exact ⟨fun _ => hQ, fun _ => ⟨fun _ => hQ, fun h => absurd h (by omega)⟩⟩
    refine s_Rules_findFault_10 ⟨k0, am_nm_k q2 ?_⟩
    rintro _ rfl _ _
    exact ⟨fun _ => s69, fun _ => ⟨fun _ => s69, fun h => absurd h (by omega)⟩⟩
  refine e_Rules_findFault ⟨k0, r + 1, am_rq (i := 0) hB hr rfl rfl, k1, x_typesFault hB hr t2 h36 t1 h6 t3 hg (fun I1 f1 L1 e1 e2 => ⟨_, rfl, s_Rules_findFault_7 ?_⟩) (fun I1 k f1 e1 e2 => ⟨_, rfl, s_Rules_findFault_7 (skip k I1 0 e2 ((f1 _ _ (by omega) (by omega)).trans t4) ((f1 _ _ (by omega) (by omega)).trans t6) (bad1 I1 k (fun a j a1 a2 a3 a4 => f1 a j a1 a2) e1 e2))⟩)⟩
  have cols : ∀ (u z : Nat) (I' : Nat → Nat → Int), z + u = t.2.1 → (∀ a j : Nat, a ≠ r + 26 → I' a j = I1 a j) → (∀ y : Nat, y < z → I' (r + 26) y = lx (I (r + 9)) t.1.length (nu (ts_sz t.1 + 1 + y))) → arf (lx (I (r + 9)) t.1.length) pl nu (ts_sz t.1 + 1) t.2.1 = arf (lx (I (r + 9)) t.1.length) pl nu (ts_sz t.1 + 1 + z) u → am_WP (d + 17) (111, 10, [.inr (.inl r), .inl (-1), .inl (z : Int)], [], (0, 0), n, K, I', J, R) Q := by
    intro u
    induction u with
    | zero =>
      intro z I' hu hf hz he
      have fr : xm_fr r I I' := fun a j a1 a2 a3 a4 => (hf a j a4).trans (f1 a j a1 a2)
      refine s_Rules_findFault_10 ⟨k0, am_nm_k ((fr _ _ (by omega) (by omega) (by omega) (by omega)).trans t4) ?_⟩
      rintro _ rfl _ _
      refine ⟨fun _ => s_Rules_findFault_69 ?_, fun h => absurd h (by omega)⟩
      have xw : xw_rows I' J r 0 0 t.2.2 := by
        have : ∀ (us : List rw0) (ρ' i' : Nat), xw_rows I J r ρ' i' us → xw_rows I' J r ρ' i' us := by
          intro us
          induction us with
          | nil => intro _ _ _; exact trivial
          | cons u us ih2 =>
            intro ρ' i' hu
            obtain ⟨u1, u2, u3, u4⟩ := hu
            refine ⟨(fr _ _ (by omega) (by omega) (by omega) (by omega)).trans u1, (fr _ _ (by omega) (by omega) (by omega) (by omega)).trans u2, ?_, ih2 _ _ u4⟩
            have q : ∀ (x j : Nat), r + 15 + 1 ≤ x → x ≤ r + 15 + 9 → I' x j = I x j := fun x j a1 a2 => (hf x j (by omega)).trans (f1 x j (by omega) (by omega))
            exact ft_HL_frame u3 (fun x j a1 a2 _ _ => q x j a1 a2) (fun _ _ _ => rfl)
        exact this _ _ _ t9
      have go := x_ffRows (d := d + 1) (n := n) (Q := Q) (g := J (r + 7)) (cT := I (r + 5)) (ar := I (r + 6)) (aT := I' (r + 8)) (m := ts_cn t.1) (wd := t.2.1) (W := I' (r + 26)) (N := t.2.2.length) (J := J) hB hr h36 (fun c hc => xs_ar t.1 0 0 0 t3 hg c (Nat.zero_le _) (by omega)) hw4 h12 t.2.2 0 0 I' ((fr _ _ (by omega) (by omega) (by omega) (by omega)).trans t6) (Nat.zero_add _) ((fr _ _ (by omega) (by omega) (by omega) (by omega)).trans t4) (fun _ _ => rfl) xw ho (by omega) ⟨(fr _ _ (by omega) (by omega) (by omega) (by omega)).trans t2, funext fun j => fr _ _ (by omega) (by omega) (by omega) (by omega), funext fun j => fr _ _ (by omega) (by omega) (by omega) (by omega), rfl, rfl⟩ (fun I2 f2 p2 => ?_)
      · exact go
      · have a8 : I' (r + 8) = I2 (r + 8) := funext fun j => (f2 _ _ (by omega)).symm
        have a26 : I' (r + 26) = I2 (r + 26) := funext fun j => (f2 _ _ (by omega)).symm
        rw [a8, a26] at p2 ⊢
        have hnn : ∀ k : Int, xm_rows I I2 J r t = some k → 0 ≤ k := by
          intro k
          unfold xm_rows
          have : ∀ ws : List rw0, (∀ w ∈ ws, rw_ok w) → rsf (fx (J (r + 7)) (ts_cn t.1)) (I (r + 5)) (I (r + 6)) (I2 (r + 8)) (I2 (r + 26)) t.2.1 ws = some k → 0 ≤ k := by
            intro ws
            induction ws with
            | nil => intro _ h; exact absurd h (by simp [rsf])
            | cons w ws ih2 =>
              intro ho2 h
              have h' : oe (ls_f (tf (fx (J (r + 7)) (ts_cn t.1)) (I (r + 5)) (I (r + 6)) (I2 (r + 8)) 6) (tm_at 6) w.2.2 (I2 (r + 26)) t.2.1 w.1) (rsf (fx (J (r + 7)) (ts_cn t.1)) (I (r + 5)) (I (r + 6)) (I2 (r + 8)) (I2 (r + 26)) t.2.1 ws) = some k := h
              obtain ⟨_, o2, o3⟩ := ho2 w List.mem_cons_self
              rcases hc : ls_f (tf (fx (J (r + 7)) (ts_cn t.1)) (I (r + 5)) (I (r + 6)) (I2 (r + 8)) 6) (tm_at 6) w.2.2 (I2 (r + 26)) t.2.1 w.1 with _ | k'
              · rw [hc] at h'
                exact ih2 (fun u hu => ho2 u (List.mem_cons_of_mem _ hu)) h'
              · rw [hc] at h'
                have e2 : some k' = some k := h'
                have e3 := Option.some.inj e2
                subst e3
                exact ls_f_nn _ _ _ o2 o3 hc
          exact this _ ho
        refine rows I2 (fun a j a1 a2 a3 a4 => (f2 a j (by omega)).trans (fr a j a1 a2 a3 a4)) ⟨e1, ta_ok_cg (fun j => (f2 _ _ (by omega)).trans (hf _ _ (by omega))) _ _ _ e2, he, fun z' hz' => (f2 _ _ (by omega)).trans (hz z' (by omega))⟩ p2 hnn
    | succ u ih =>
      intro z I' hu hf hz he
      have fr : xm_fr r I I' := fun a j a1 a2 a3 a4 => (hf a j a4).trans (f1 a j a1 a2)
      have hc := hcr z (by omega)
      have k26 : K (r + 26) = .inr (0, 4) := am_kq (i := 26) hB hr (by decide) rfl
      refine s_Rules_findFault_10 ⟨k0, am_nm_k ((fr _ _ (by omega) (by omega) (by omega) (by omega)).trans t4) ?_⟩
      rintro _ rfl _ _
      refine ⟨fun h => absurd h (by omega), fun _ => ⟨fun h => absurd rfl h, fun _ => ⟨k0, r + 26, am_rq (i := 0) hB hr rfl rfl, k0, r + 1, am_rq (i := 0) hB hr rfl rfl, k0, r + 27, am_rq (i := 0) hB hr rfl rfl, _, am_kq hB hr (by decide) rfl, ⟨by omega, by omega⟩, am_nm_k ((fr _ _ (by omega) (by omega) (by omega) (by omega)).trans (t5 z (by omega)).1) ?_⟩⟩⟩
      rintro _ rfl _ _
      refine ⟨k1, x_typeOf (f := lx (I (r + 9)) t.1.length) hB hr hc.1 (fun l hl => (hf _ _ (by omega)).trans (L1 l hl)) ⟨_, rfl, s_Rules_findFault_41 ⟨_, by omega, k26, ⟨by omega, by omega⟩, k0, r + 26, am_rq (i := 0) hB hr rfl rfl, _, k26, ⟨by omega, by omega⟩, am_nm_k am_u_kk ?_⟩⟩⟩
      rintro _ rfl _ _
      have f2 : ∀ a j : Nat, a ≠ r + 26 → am_u I' (r + 26) z (lx (I (r + 9)) t.1.length (nu (ts_sz t.1 + 1 + z))) a j = I1 a j := fun a j h => (am_u_ne h).trans (hf a j h)
      refine ⟨fun h => s_Rules_findFault_62 (am_ar_i (by omega) (by omega) (ih (z + 1) _ (by omega) f2 (fun y hy => ?_) ?_)), fun h => ⟨k0, r + 28, am_rq (i := 0) hB hr rfl rfl, _, am_kq hB hr (by decide) rfl, ⟨by omega, by omega⟩, am_nm_k ((f2 _ _ (by omega)).trans ((f1 _ _ (by omega) (by omega)).trans (t5 z (by omega)).2)) ?_⟩⟩
      · by_cases e : y = z
        · subst e; exact am_u_kk
        · exact (am_u_kn e).trans (hz y (by omega))
      · rw [he]
        show (if lx (I (r + 9)) t.1.length (nu (ts_sz t.1 + 1 + z)) = -1 then some (pl (ts_sz t.1 + 1 + z)) else arf (lx (I (r + 9)) t.1.length) pl nu (ts_sz t.1 + 1 + z + 1) u) = _
        rw [if_neg h]; rfl
      · rintro _ rfl _ _
        have e9 : arf (lx (I (r + 9)) t.1.length) pl nu (ts_sz t.1 + 1) t.2.1 = some (pl (ts_sz t.1 + 1 + z)) := by
          rw [he]
          show (if lx (I (r + 9)) t.1.length (nu (ts_sz t.1 + 1 + z)) = -1 then some (pl (ts_sz t.1 + 1 + z)) else arf (lx (I (r + 9)) t.1.length) pl nu (ts_sz t.1 + 1 + z + 1) u) = _
          rw [if_pos h]
        refine s_Rules_findFault_62 (am_ar_i (by omega) (by omega) (skip _ _ (z + 1) hc.2 ((f2 _ _ (by omega)).trans ((f1 _ _ (by omega) (by omega)).trans t4)) ((f2 _ _ (by omega)).trans ((f1 _ _ (by omega) (by omega)).trans t6)) (bad2 _ _ (fun a j a1 a2 a3 a4 => (f2 a j a4).trans (f1 a j a1 a2)) e1 e9 hc.2)))
  exact cols t.2.1 0 I1 (by omega) (fun _ _ _ => rfl) (fun y hy => absurd hy (Nat.not_lt_zero y)) rfl
end XFT
