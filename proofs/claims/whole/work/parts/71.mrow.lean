def fm_L (d n0 : Nat) (v : Bool) (K : Nat → am_K) (J : Nat → Nat → Int) (R : Nat → Nat → Option Nat) (Q : am_Q) (x3 : Int) (I : Nat → Nat → Int) : Prop := am_WP (d + 5) (34, 9, [.inr (.inl 101), .inl (xt_v v), .inl 1, .inl x3], [], (0, 0), n0, K, I, J, R) Q
def fm_E (d n0 : Nat) (v : Bool) (K : Nat → am_K) (J : Nat → Nat → Int) (R : Nat → Nat → Option Nat) (Q : am_Q) (x3 : Int) (I : Nat → Nat → Int) : Prop := am_WP (d + 4) (am_entry 36 [.inr (.inl 101), .inl (xt_v v)] (n0, K, I, J, R)) (fun v1 s2 => v1 = none ∧ am_WP (d + 5) (34, 96, [.inr (.inl 101), .inl (xt_v v), .inl 1, .inl x3], [], (0, 0), s2) Q)
theorem fm_cl_congr {f g : Nat → Int} : ∀ o : Nat, (∀ q : Nat, q < o → f q = g q) → fm_cl f o = fm_cl g o := by
  intro o
  induction o with
  | zero => intro _; rfl
  | succ o ih =>
    intro h
    show (if f o = 1 then fm_cl f o else o + 1) = (if g o = 1 then fm_cl g o else o + 1)
    rw [h o (by omega), ih (fun q hq => h q (by omega))]
theorem ft_sp_bg {kd pl nu nm : Nat → Int} {v : Bool} {n i j : Nat} {t : tm n} (h : ft_sp kd pl nu nm v n i t j) : ft_bg v (kd i) := by
  cases n with
  | zero => exact h.elim
  | succ n =>
    unfold ft_bg
    rcases h with h | h | h | h | h | h | h | h | h
    · exact Or.inl h.1
    · exact Or.inr (Or.inl h.1)
    · exact Or.inr (Or.inr (Or.inl h.1))
    · exact Or.inr (Or.inr (Or.inr (Or.inl ⟨h.1, h.2.1⟩)))
    · exact Or.inr (Or.inr (Or.inr (Or.inr ⟨h.1, Or.inl h.2.1⟩)))
    · exact Or.inr (Or.inr (Or.inr (Or.inr ⟨h.1, Or.inr (Or.inl h.2.1)⟩)))
    · exact Or.inr (Or.inr (Or.inr (Or.inr ⟨h.1, Or.inr (Or.inr (Or.inl h.2.1))⟩)))
    · exact Or.inr (Or.inr (Or.inr (Or.inr ⟨h.1, Or.inr (Or.inr (Or.inl h.2.1))⟩)))
    · exact Or.inr (Or.inr (Or.inr (Or.inr ⟨h.1, Or.inr (Or.inr (Or.inr h.2.1))⟩)))
theorem ft_bd_nb {kd pl nu nm : Nat → Int} {v : Bool} {n i c k : Nat} (h : ft_bd kd pl nu nm v n i c k) (hb : ¬ ft_bg v (kd i)) : k = i := by
  cases n with
  | zero => exact h
  | succ n =>
    unfold ft_bg at hb
    rcases h with h | ⟨-, h | h | h | h⟩
    · exact h.2
    · exact absurd (Or.inr (Or.inr (Or.inr (Or.inr ⟨h.1, by omega⟩)))) hb
    · exact absurd (Or.inr (Or.inr (Or.inr (Or.inr ⟨h.1, by omega⟩)))) hb
    · exact absurd (Or.inr (Or.inr (Or.inl h.1))) hb
    · exact absurd (Or.inr (Or.inr (Or.inl h.1))) hb
theorem ft_le_nb {v : Bool} {x : Int} (h : ft_le x) : ¬ ft_bg v x := by
  unfold ft_le at h
  unfold ft_bg
  rintro (q | q | q | q | q) <;> omega
section MR
variable {d n0 : Nat} {K : Nat → am_K} {J : Nat → Nat → Int} {R : Nat → Nat → Option Nat} {Q : am_Q} {kd pl nu nm : Nat → Int} {c : Nat} {v : Bool}
theorem mr_go {I : Nat → Nat → Int} {i m o : Nat} {x3 : Int} (hB : am_B K R) (hT : mt_T I J kd pl nu nm c) (hS : fm_S I i m o) (hc : i ≤ c) (ho : o ≤ 60) (hx : x3 ≠ 0 ∨ ft_bg v (kd i) ∨ 0 < o ∧ kd i ≠ 41) (h : fm_E d n0 v K J R Q x3 I) : fm_L d n0 v K J R Q x3 I := by
  obtain ⟨hi, h8, h10, h13⟩ := hS
  have n41 : ft_bg v (kd i) → kd i ≠ 41 := by
    intro g e
    exact ft_le_nb (Or.inl e) g
  have g44 : am_WP (d + 5) (34, 44, [.inr (.inl 101), .inl (xt_v v), .inl 1, .inl x3], [], (0, 0), n0, K, I, J, R) Q := by
    refine s_M_formOfRow_44 ⟨fun _ => ⟨(am_kk hB rfl), h⟩, fun h0 => ⟨(am_kk hB rfl), am_nm_k h13 ?_⟩⟩
    rintro _ rfl _ _
    refine ⟨fun _ => ⟨(am_kk hB rfl), h⟩, fun _ => ⟨(am_kk hB rfl), m_isSign (by unfold tb_sg; decide) hB hT hi hc (fun h41 => ?_) (fun _ => ⟨_, rfl, s_M_formOfRow_61 ⟨fun _ => ⟨(am_kk hB rfl), h⟩, fun h => absurd rfl h⟩⟩)⟩⟩
    rcases hx with g | g | g
    · exact absurd h0 g
    · exact absurd h41 (n41 g)
    · exact absurd h41 g.2
  refine s_M_formOfRow_9 ⟨fun h => absurd h (by decide), fun _ => ⟨(am_kk hB rfl), am_nm_k h8 ?_⟩⟩
  rintro _ rfl _ _
  refine ⟨fun h => absurd rfl h, fun _ => ⟨(am_kk hB rfl), m_begins hB hT hi hc (fun _ => ⟨_, rfl, s_M_formOfRow_25 ⟨fun _ => g44, fun h => absurd h (by decide)⟩⟩) (fun hnb => ⟨_, rfl, s_M_formOfRow_25 ⟨fun h => absurd rfl h, fun _ => ⟨(am_kk hB rfl), am_nm_k h13 ?_⟩⟩⟩)⟩⟩
  rintro _ rfl _ _
  refine ⟨fun _ => g44, fun h0 => ⟨fun _ => g44, fun hx0 => ?_⟩⟩
  rcases hx with g | g | g
  · exact absurd hx0 g
  · exact absurd g hnb
  · exact absurd g.1 (by omega)
theorem mr_end {I : Nat → Nat → Int} {i m : Nat} (hB : am_B K R) (hT : mt_T I J kd pl nu nm c) (hS : fm_S I i m 0) (hc : i ≤ c) (hnb : ¬ ft_bg v (kd i)) (h : Q none (n0, K, I, J, R)) : fm_L d n0 v K J R Q 0 I := by
  obtain ⟨hi, h8, h10, h13⟩ := hS
  refine s_M_formOfRow_9 ⟨fun h => absurd h (by decide), fun _ => ⟨(am_kk hB rfl), am_nm_k h8 ?_⟩⟩
  rintro _ rfl _ _
  refine ⟨fun h => absurd rfl h, fun _ => ⟨(am_kk hB rfl), m_begins hB hT hi hc (fun g => absurd g hnb) (fun _ => ⟨_, rfl, s_M_formOfRow_25 ⟨fun h => absurd rfl h, fun _ => ⟨(am_kk hB rfl), am_nm_k h13 ?_⟩⟩⟩)⟩⟩
  rintro _ rfl _ _
  exact ⟨fun h => absurd rfl h, fun _ => ⟨fun h => absurd rfl h, fun _ => s_M_formOfRow_9 (x2 := 0) ⟨fun _ => h, fun h => absurd rfl h⟩⟩⟩
theorem mr_bad {I : Nat → Nat → Int} {x3 : Int} (hB : am_B K R) (h8 : I 101 8 = 1) (h : Q none (n0, K, I, J, R)) : fm_L d n0 v K J R Q x3 I := by
  refine s_M_formOfRow_9 ⟨fun h => absurd h (by decide), fun _ => ⟨(am_kk hB rfl), am_nm_k h8 ?_⟩⟩
  rintro _ rfl _ _
  exact ⟨fun _ => h, fun h => absurd h (by decide)⟩
theorem mr_par {I : Nat → Nat → Int} {i m o : Nat} (hB : am_B K R) (hT : mt_T I J kd pl nu nm c) (hS : fm_S I i m (o + 1)) (hc : i ≤ c) (ho : o ≤ 50) (h41 : kd i = 41) (h : ∀ I' : Nat → Nat → Int, fm_fr I I' → fm_S I' (i + 1) m (fm_cl (I 106) o) → (∀ q : Nat, I' 106 q = I 106 q) → fm_L d n0 v K J R Q 0 I') : fm_L d n0 v K J R Q 0 I := by
  obtain ⟨hi, h8, h10, h13⟩ := hS
  have h12 := hT.2.1
  refine s_M_formOfRow_9 ⟨fun h => absurd h (by decide), fun _ => ⟨(am_kk hB rfl), am_nm_k h8 ?_⟩⟩
  rintro _ rfl _ _
  refine ⟨fun h => absurd rfl h, fun _ => ⟨(am_kk hB rfl), m_begins hB hT hi hc (fun g => absurd g (ft_le_nb (Or.inl h41))) (fun _ => ⟨_, rfl, s_M_formOfRow_25 ⟨fun h => absurd rfl h, fun _ => ⟨(am_kk hB rfl), am_nm_k h13 ?_⟩⟩⟩)⟩⟩
  rintro _ rfl _ _
  refine ⟨fun _ => s_M_formOfRow_44 ⟨fun h => absurd rfl h, fun _ => ⟨(am_kk hB rfl), am_nm_k h13 ?_⟩⟩, fun h => absurd h (by omega)⟩
  rintro _ rfl _ _
  refine ⟨fun h => absurd h (by omega), fun _ => ⟨(am_kk hB rfl), m_isSign (by unfold tb_sg; decide) hB hT hi hc (fun _ => ⟨_, rfl, s_M_formOfRow_61 ⟨fun h => absurd h (by decide), fun _ => ⟨(am_kk hB rfl), am_nm_k hi ?_⟩⟩⟩) (fun g => absurd h41 g)⟩⟩
  rintro _ rfl _ _
  refine am_ar_i (by omega) (by omega) ⟨⟨by decide, (am_kk hB rfl)⟩, (am_kk hB rfl), am_nm_ie (by decide) (am_nm_k h13 ?_)⟩
  rintro _ rfl _ _
  refine fun z6 q6 hz6 _ _ => ⟨⟨by decide, (am_kk hB rfl)⟩, (am_kk hB rfl), ?_⟩
  have e6 : z6 = (o : Int) := by omega
  subst e6
  refine m_close hB o _ (by omega) am_u_kk (fun I' g1 g2 => ⟨rfl, s_M_formOfRow_88 (h I' ?_ ⟨?_, ?_, ?_, ?_⟩ (fun q => ?_))⟩)
  · exact fm_trans (fm_trans (fm_up (by decide)) (fm_up (by decide))) (fun a j p1 p2 => g1 a j (fun q => p1 ⟨q.1, by rw [q.2]; decide⟩))
  · rw [g1 101 7 (by omega), am_u_kn (by decide), am_u_kk]; omega
  · rw [g1 101 8 (by omega), am_u_kn (by decide), am_u_kn (by decide)]; exact h8
  · rw [g1 101 10 (by omega), am_u_kn (by decide), am_u_kn (by decide)]; exact h10
  · rw [g2, am_u_row (by decide), am_u_row (by decide)]
  · rw [g1 106 q (by omega), am_u_ne (by decide), am_u_ne (by decide)]
variable (d n0 K J R Q kd pl nu nm c v)
def mr_T (n : Nat) : Prop := ∀ (I : Nat → Nat → Int) (t : tm n) (i j m o : Nat) (x3 : Int), mt_T I J kd pl nu nm c → fm_S I i m o → i ≤ c → ft_sp kd pl nu nm v n i t j → m + tm_sz n t ≤ 60 → o + n = 6 → (∀ I' : Nat → Nat → Int, fm_fr I I' → fm_S I' j (m + tm_sz n t) (fm_cl (I 106) o) → (∀ q : Nat, q < o → I' 106 q = I 106 q) → j ≤ c → fm_L d n0 v K J R Q 0 I') → fm_E d n0 v K J R Q x3 I
def mr_Ls (n : Nat) : Prop := ∀ (ts : List (tm n)) (I : Nat → Nat → Int) (i j m o : Nat), mt_T I J kd pl nu nm c → fm_S I i m o → i ≤ c → ls_sp (ft_sp kd pl nu nm v n) i ts j → m + ls_sz (tm_sz n) ts ≤ 60 → o + n = 6 → fm_cl (I 106) o = o → (∀ I' : Nat → Nat → Int, fm_fr I I' → fm_S I' j (m + ls_sz (tm_sz n) ts) o → (∀ q : Nat, q < o → I' 106 q = I 106 q) → j ≤ c → fm_L d n0 v K J R Q 0 I') → fm_L d n0 v K J R Q 0 I
def mr_D (n : Nat) : Prop := ∀ (I : Nat → Nat → Int) (i m o k : Nat) (x3 : Int), mt_T I J kd pl nu nm c → fm_S I i m o → i ≤ c → m ≤ 60 → o + n = 6 → ft_bd kd pl nu nm v n i m k → (∀ I' : Nat → Nat → Int, fm_bad pl I I' k → Q none (n0, K, I', J, R)) → fm_E d n0 v K J R Q x3 I
variable {d n0 K J R Q kd pl nu nm c v}
theorem mr_list (hB : am_B K R) (n : Nat) (hT : mr_T d n0 K J R Q kd pl nu nm c v n) : mr_Ls d n0 K J R Q kd pl nu nm c v n := by
  intro ts
  induction ts with
  | nil =>
    intro I i j m o hM hS hc hs hm ho hcl post
    have e : i = j := hs
    subst e
    exact post I fm_refl hS (fun _ _ => rfl) hc
  | cons t ts ih =>
    intro I i j m o hM hS hc hs hm ho hcl post
    obtain ⟨p, h1, h2⟩ := hs
    have hm : m + (tm_sz n t + ls_sz (tm_sz n) ts) ≤ 60 := hm
    refine mr_go hB hM hS hc (by omega) (Or.inr (Or.inl (ft_sp_bg h1))) (hT I t i p m o 0 hM hS hc h1 (by omega) ho (fun I' f1 s1 q1 hp => ?_))
    rw [hcl] at s1
    have hcl' : fm_cl (I' 106) o = o := (fm_cl_congr o q1).trans hcl
    refine ih I' p j (m + tm_sz n t) o (mt_fr hM f1) s1 hp h2 (by omega) ho hcl' (fun I2 f2 s2 q2 hj => post I2 (fm_trans f1 f2) ?_ (fun q hq => (q2 q hq).trans (q1 q hq)) hj)
    rw [Nat.add_assoc] at s2
    exact s2
theorem mr_zero : mr_T d n0 K J R Q kd pl nu nm c v 0 := fun I t i j m o x3 _ _ _ h _ _ _ => h.elim
theorem mr_succ (hB : am_B K R) (n : Nat) (hT : mr_T d n0 K J R Q kd pl nu nm c v n) (hL : mr_Ls d n0 K J R Q kd pl nu nm c v n) : mr_T d n0 K J R Q kd pl nu nm c v (n + 1) := by
  intro I t i j m o x3 hM hS hc hs hm ho post
  have hbg := ft_sp_bg hs
  have h12 := hM.2.1
  -- behind a front
  have fr2 : ∀ (e : Nat) (t' : tm n), ft_sp kd pl nu nm v n (i + e) t' j → tm_sz (n + 1) t = 1 + tm_sz n t' → i + e ≤ c → ∀ I' : Nat → Nat → Int, fm_fr I I' → fm_S I' (i + e) (m + 1) (o + 1) → I' 106 o = 1 → (∀ q : Nat, q < o → I' 106 q = I 106 q) → am_WP (d + 5) (34, 96, [.inr (.inl 101), .inl (xt_v v), .inl 1, .inl x3], [], (0, 0), n0, K, I', J, R) Q := by
    intro e t' h1 hsz hec I' f1 s1 o1 q1
    refine s_M_formOfRow_96 ?_
    refine mr_go hB (mt_fr hM f1) s1 hec (by omega) (Or.inr (Or.inl (ft_sp_bg h1))) (hT I' t' (i + e) j (m + 1) (o + 1) 0 (mt_fr hM f1) s1 hec h1 (by omega) (by omega) (fun I2 f2 s2 q2 hj => post I2 (fm_trans f1 f2) ?_ (fun q hq => (q2 q (by omega)).trans (q1 q hq)) hj))
    have e1 : fm_cl (I' 106) (o + 1) = fm_cl (I 106) o := by
      show (if I' 106 o = 1 then fm_cl (I' 106) o else o + 1) = _
      rw [if_pos o1]
      exact fm_cl_congr o q1
    rw [e1] at s2
    rw [hsz, ← Nat.add_assoc]
    exact s2
  -- a leaf
  have lf2 : tm_sz (n + 1) t = 1 → j = i + 1 → ∀ I' : Nat → Nat → Int, fm_fr I I' → fm_S I' (i + 1) (m + 1) (fm_cl (I 106) o) → (∀ q : Nat, I' 106 q = I 106 q) → i < c → am_WP (d + 5) (34, 96, [.inr (.inl 101), .inl (xt_v v), .inl 1, .inl x3], [], (0, 0), n0, K, I', J, R) Q := by
    intro hsz hj I' f1 s1 q1 hlt
    refine s_M_formOfRow_96 (post I' f1 ?_ (fun q _ => q1 q) (by omega))
    rw [hsz, hj]; exact s1
  have hlt : i < c := by
    refine mt_lt hM hc ?_ ?_
    · intro e; unfold ft_bg at hbg; omega
    · intro e; unfold ft_bg at hbg; omega
  refine m_pat (i := i) (m := m) (o := o) hB hM hS hc (by have := tm_sz_pos (n + 1) t; omega) (by omega) ?_ ?_ ?_ ?_ ?_
  · rintro (q | q | q)
    · exact absurd hbg q
    · have := tm_sz_pos (n + 1) t; omega
    · omega
  · intro hv _ _ e he
    refine ⟨fun hbg2 I' f1 s1 o1 q1 => ⟨rfl, ?_⟩, fun hnb => ?_⟩
    · rcases hs with h | h | h | h | h | h | h | h | h
      · omega
      · omega
      · omega
      · omega
      · obtain ⟨h1, h2, t', h3, h4⟩ := h
        have e1 : e = 1 := by omega
        subst e1
        exact fr2 1 t' h3 (by rw [h4]; show 1 + (tm_sz n t' + 0) = _; omega) hlt I' f1 s1 o1 q1
      · obtain ⟨h1, h2, t', h3, h4⟩ := h
        have e1 : e = 1 := by omega
        subst e1
        exact fr2 1 t' h3 (by rw [h4]; show 1 + (tm_sz n t' + 0) = _; omega) hlt I' f1 s1 o1 q1
      · obtain ⟨h1, h2, h2b, t', h3, h4⟩ := h
        have e1 : e = 2 := by omega
        subst e1
        have := mt_lt (i := i + 1) hM (by omega) (by rw [h2b]; decide) (by rw [h2b]; decide)
        exact fr2 2 t' h3 (by rw [h4]; show 1 + (tm_sz n t' + 0) = _; omega) (by omega) I' f1 s1 o1 q1
      · omega
      · omega
    · rcases hs with h | h | h | h | h | h | h | h | h
      · omega
      · omega
      · omega
      · omega
      · obtain ⟨h1, h2, t', h3, h4⟩ := h
        have e1 : e = 1 := by omega
        subst e1
        exact absurd (ft_sp_bg h3) hnb
      · obtain ⟨h1, h2, t', h3, h4⟩ := h
        have e1 : e = 1 := by omega
        subst e1
        exact absurd (ft_sp_bg h3) hnb
      · obtain ⟨h1, h2, h2b, t', h3, h4⟩ := h
        have e1 : e = 2 := by omega
        subst e1
        exact absurd (ft_sp_bg h3) hnb
      · omega
      · omega
  · intro _ _ h40 hn3
    rcases hs with h | h | h | h | h | h | h | h | h
    · omega
    · omega
    · exact absurd h.2.1 hn3
    all_goals omega
  · intro _ _ h40 h3
    have hc1 := mt_lt (i := i + 1) hM (by omega) (by rw [h3]; decide) (by rw [h3]; decide)
    have hks : ∃ (ks : List (tm n)) (p : Nat), ks ≠ [] ∧ ls_sp (ft_sp kd pl nu nm v n) (i + 2) ks p ∧ kd p = 41 ∧ tm_sz (n + 1) t = 1 + ls_sz (tm_sz n) ks ∧ j = p + 1 := by
      rcases hs with h | h | h | h | h | h | h | h | h
      · omega
      · omega
      · obtain ⟨-, -, ks, p, g1, g2, g3, g4, g5⟩ := h
        exact ⟨ks, p, g1, g2, g3, by rw [g4]; rfl, g5⟩
      all_goals omega
    obtain ⟨ks, p, g1, g2, g3, g4, g5⟩ := hks
    have bg2 : ft_bg v (kd (i + 2)) := by
      cases ks with
      | nil => exact absurd rfl g1
      | cons u us => obtain ⟨q, h1, -⟩ := g2; exact ft_sp_bg h1
    refine ⟨fun _ I' f1 s1 o1 q1 => ⟨rfl, s_M_formOfRow_96 ?_⟩, fun hnb => absurd bg2 hnb⟩
    have hcl : fm_cl (I' 106) (o + 1) = o + 1 := if_neg (by rw [o1]; decide)
    refine hL ks I' (i + 2) p (m + 1) (o + 1) (mt_fr hM f1) s1 (by omega) g2 (by omega) (by omega) hcl (fun I2 f2 s2 q2 hp => ?_)
    refine mr_par hB (mt_fr (mt_fr hM f1) f2) s2 hp (by omega) g3 (fun I3 f3 s3 q3 => post I3 (fm_trans (fm_trans f1 f2) f3) ?_ (fun q hq => (q3 q).trans ((q2 q (by omega)).trans (q1 q hq))) ?_)
    · have e1 : fm_cl (I2 106) o = fm_cl (I 106) o := fm_cl_congr o (fun q hq => (q2 q (by omega)).trans (q1 q hq))
      rw [e1] at s3
      rw [g4, g5, ← Nat.add_assoc]
      exact s3
    · have := mt_lt (i := p) hM hp (by rw [g3]; decide) (by rw [g3]; decide)
      omega
  · intro _ _ _ n126 n33 n4 n40 I' f1 s1 q1
    refine ⟨rfl, ?_⟩
    rcases hs with h | h | h | h | h | h | h | h | h
    · exact lf2 (by rw [h.2.1]; rfl) h.2.2 I' f1 s1 q1 hlt
    · exact lf2 (by rw [h.2.1]; rfl) h.2.2 I' f1 s1 q1 hlt
    · exact absurd h.1 n40
    · exact lf2 (by rw [h.2.2.1]; rfl) h.2.2.2 I' f1 s1 q1 hlt
    · exact absurd h.2.1 n126
    · exact absurd h.2.1 n33
    · exact absurd ⟨h.2.1, h.2.2.1⟩ n4
    · exact lf2 (by rw [h.2.2.2.1]; rfl) h.2.2.2.2 I' f1 s1 q1 hlt
    · exact lf2 (by rw [h.2.2.1]; rfl) h.2.2.2 I' f1 s1 q1 hlt
theorem mr_all (hB : am_B K R) : ∀ n : Nat, mr_T d n0 K J R Q kd pl nu nm c v n ∧ mr_Ls d n0 K J R Q kd pl nu nm c v n := by
  intro n
  induction n with
  | zero => exact ⟨mr_zero, mr_list hB 0 mr_zero⟩
  | succ n ih =>
    have h := mr_succ hB n ih.1 ih.2
    exact ⟨h, mr_list hB (n + 1) h⟩
end MR
