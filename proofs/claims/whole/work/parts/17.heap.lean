section AMH
variable {G : am_G} {Zc : am_Z} {l : Launch}
variable {p : Program} {e : Env} {R : Room} {s : State} {mid : MethodId} {args : Array Value} {below : List Frame} {meth : Method} {c : Code} {H : Heap} {locs : List Loc} {lsA : Array Slot} {Z : State → Prop}
variable {n : Nat} {K : Nat → am_K} {I : Nat → Nat → Int} {L : Nat → Nat → Int} {Rf : Nat → Nat → Option Nat}
def am_fs (ρ : Nat → Nat) (N ci : Nat) (I : Nat → Nat → Int) (L : Nat → Nat → Int) (R : Nat → Nat → Option Nat) (a : Nat) : List Value := (List.range N).map fun k => am_fv ρ (am_fty ci k) I L R a k
theorem am_fs_get {ρ : Nat → Nat} {N ci : Nat} {I : Nat → Nat → Int} {L : Nat → Nat → Int} {R : Nat → Nat → Option Nat} {a k : Nat} (hk : k < N) : (am_fs ρ N ci I L R a)[k]? = some (am_fv ρ (am_fty ci k) I L R a k) := by
  unfold am_fs
  rw [List.getElem?_map, List.getElem?_range hk]; rfl
theorem am_fs_V {ρ : Nat → Nat} {N ci : Nat} {I : Nat → Nat → Int} {L : Nat → Nat → Int} {R : Nat → Nat → Option Nat} {a k : Nat} (hk : k < N) : vp_V (am_fs ρ N ci I L R a) k = am_fv ρ (am_fty ci k) I L R a k := by
  unfold vp_V
  rw [List.getD_eq_getElem?_getD, am_fs_get hk]; rfl
theorem am_P1 {ci a : Nat} (hH : am_Hp G Zc (n, K, I, L, Rf) H) (ha : am_nc ≤ a) (hk : K a = .inl ci) : ∃ q : vw_C, am_cls[ci]? = some q ∧ va_P (G.1, G.2.1) am_cls [(am_r G a, .inr (ci, am_fs (am_r G) q.2.2 ci I L Rf a))] H := by
  have hlt : a < n := hH.lt (by rw [hk]; exact fun q => by cases q)
  have h1 := hH.2.2.2.1 a ha hlt
  unfold am_cell at h1
  rw [hk] at h1
  obtain ⟨q, q1, q2⟩ := h1
  refine ⟨q, q1, fun k x hx => ?_⟩
  have hz : k < 1 := (List.getElem?_eq_some_iff.mp hx).1
  rw [show k = 0 by omega] at hx
  cases hx
  exact ⟨q, q1, q2.to (fun k hk => (am_fs_V hk).symm)⟩
theorem am_getV {t a j : Nat} {k : am_V → Prop} {ρ : Nat → Nat} (hg : am_Rg I L) (h : am_get t I L Rf a j k) : ∃ v, k v ∧ am_rg v ∧ am_cv ρ v = am_fv ρ t I L Rf a j := by
  unfold am_get at h
  unfold am_fv
  split at h
  · have hr := hg.2 a j
    exact ⟨_, h _ rfl hr.1 hr.2, hr, rfl⟩
  · obtain ⟨b, h1, h2⟩ := h
    exact ⟨_, h2, trivial, by rw [h1]; rfl⟩
  · rename_i h2 h3
    have hr := hg.1 a j
    refine ⟨_, h _ rfl hr.1 hr.2, hr, ?_⟩
    split
    · exact (h2 rfl).elim
    · exact (h3 rfl).elim
    · rfl
/-- getfield -/
theorem am_W_get {m pc ix ci k a d : Nat} {rest : List Value} {v : Value} (hX : am_Ctx G Zc d m p R s mid args meth c) (hH : am_Hp G Zc (n, K, I, L, Rf) H) (hS : va_S (am_A G) s.heap H locs) (hk : K a = .inl ci) (hF : am_okF m ix ci k) (hOK : ∀ (ci : Nat) (q : vw_C), am_cls[ci]? = some q → am_okK ci q) (hv : v = am_fv (am_r G) (am_fty ci k) I L Rf a k) (hdg : decode (am_by m) pc = .ok (.getfield ix, 3)) {cells slots : Nat}
    (kk : W p l e R s mid args below meth c H locs cells slots Z (F0 mid (pc + 3) lsA (v :: rest))) : W p l e R s mid args below meth c H locs cells slots Z (F0 mid pc lsA (.ref (am_r G a) :: rest)) := by
  obtain ⟨hx, hb, hml, hown, hnm, hts, hK, hCs, hB, -⟩ := hX
  by_cases ha : a < am_nc
  · obtain ⟨z1, z2, z3⟩ := hH.2.2.2.2.1 a ha
    have h1 := hCs.1 a ha
    rw [← z1, hk] at h1
    dsimp only at h1
    unfold am_okF am_okF0 at hF
    rw [h1.1] at hF
    have h2 := h1.2.2 k hF.1
    have e : am_fv (am_r G) (am_fty ci k) Zc.2.1 (fun _ _ => 0) Zc.2.2 a k = am_fv (am_r G) (am_fty ci k) I L Rf a k ∨ am_fty ci k = 2 := by
      unfold am_fv
      split
      · rename_i e; exact Or.inr e
      · exact Or.inl (by rw [z3])
      · exact Or.inl (by rw [z2])
    rcases e with e | e
    · rw [e, ← hv] at h2
      exact vk_getf hx hb h2 hS hown (hts _ hF.2) (fun _ h9 => h9) hdg kk
    · exact absurd e (am_fty_const hF.1)
  · obtain ⟨q, q1, q2⟩ := am_P1 hH (by omega) hk
    unfold am_okF am_okF0 at hF
    rw [q1] at hF
    obtain ⟨C, T, N⟩ := q
    obtain ⟨k1, k2⟩ := hF
    have ok := hOK ci _ q1
    rcases k2 with k2 | k2
    · exact va_get (D := (G.1, G.2.1)) (ci := ci) (v := v) (C := C) (T := T) (N := N) hx hb hts ok.1 hown hK q2 0 rfl q1 k k1 (hts _ k2) (fun _ h9 => h9) (by rw [am_fs_get k1, hv]) hdg kk
    · exact va_getN (D := (G.1, G.2.1)) (ci := ci) (v := v) (C := C) (T := T) (N := N) hx hb hts ok.1 hown hK q2 0 rfl q1 k k1 (hts _ k2) (fun _ h9 => h9) (by rw [am_fs_get k1, hv]) hdg kk
/-- putfield: what the heap is behind it -/
theorem am_W_put0 {m pc ix ci k a d : Nat} {rest : List Value} {v : Value} (hX : am_Ctx G Zc d m p R s mid args meth c) (hH : am_Hp G Zc (n, K, I, L, Rf) H) (hS : va_S (am_A G) s.heap H locs) (ha : am_nc ≤ a) (hk : K a = .inl ci) (hF : am_okP m ix ci k) (hOK : ∀ (ci : Nat) (q : vw_C), am_cls[ci]? = some q → am_okK ci q) (hn : narrow (am_ft ci k) v = v) (hfit : fits (am_ft ci k) v = true) (hdg : decode (am_by m) pc = .ok (.putfield ix, 3)) {cells slots : Nat}
    (kk : ∀ (H1 : Heap) (locs1 : List Loc) (q : vw_C), am_cls[ci]? = some q → t_OB (am_r G a) (G.1 ci) q.2.2 (G.2.1 ci) H1 (updV (vp_V (am_fs (am_r G) q.2.2 ci I L Rf a)) k v) → H1.size = H.size → (∀ x : Nat, x ≠ am_r G a → H1[x]? = H[x]?) → va_S (am_A G) s.heap H1 locs1 → W p l e R s mid args below meth c H1 locs1 cells slots Z (F0 mid (pc + 3) lsA rest)) : W p l e R s mid args below meth c H locs cells slots Z (F0 mid pc lsA (v :: .ref (am_r G a) :: rest)) := by
  obtain ⟨hx, hb, hml, hown, hnm, hts, hK, hCs, hB, -⟩ := hX
  obtain ⟨⟨C, T, N⟩, q1, hP⟩ := am_P1 hH ha hk
  unfold am_okP am_okP0 at hF
  rw [q1] at hF
  obtain ⟨k1, k2⟩ := hF
  obtain ⟨hin, hty, hnd, -⟩ := hOK ci _ q1
  have hap := va_apart (own := (am_y m).cls) hts hin (am_ft ci) hty hnd hK q1
  obtain ⟨r, h1, cell, c1, c2, c3, c4⟩ := hP 0 _ rfl
  have hr : r = (C, T, N) := Option.some.inj (h1.symm.trans q1)
  subst hr
  obtain ⟨hSl, hfc, kC, hkC, hkind⟩ := hK.1 ci _ q1
  obtain ⟨cf, kf, fi, f, hi, hsl⟩ := hSl k k1
  have hlay := hts _ (hin _ (u_in_lay k1))
  unfold u_lay at hlay
  have hst := (u_facts hfc hkC (u_lays hts hin k1) hi).1
  have fin : ∀ (H' : Heap) (sl : Nat), sl = G.2.1 ci k → H'[am_r G a]? = some (cell.setSlot sl v) → H'.size = H.size → (∀ x : Nat, x ≠ am_r G a → H'[x]? = H[x]?) → W p l e R s mid args below meth c H' (locs ++ [⟨am_r G a, sl⟩]) cells slots Z (F0 mid (pc + 3) lsA rest) := by
    intro H' sl esl e1 e2 e3
    subst esl
    exact kk H' _ _ q1 ⟨_, e1, c2, c3, t_set c4 hap k1 v⟩ e2 e3 (hS.put e2 e3 (am_r_A ha))
  rcases k2 with ⟨hfin, k2⟩ | ⟨hfin, hini, hdecl, k2⟩
  · rw [if_neg (by rw [hfin]; decide)] at hlay
    have h6 := u_store hfc hkC hkind hlay hi (hty k k1) hn hfit
    rcases k2 with k2 | k2
    · exact W.putK hx hb (f := f) ⟨hown, hts _ k2, ⟨_, _, _, hi⟩, hst⟩ (by rw [c2]; exact h6) c1 c3 (by rw [hsl]; exact k2_hasslot (c4 k k1)) rfl rfl hdg fun H' e1 e2 e3 => fin H' _ hsl e1 e2 e3
    · exact va_WputK hx hb (f := f) hown (hts _ k2) hi hst (by rw [c2]; exact h6) c1 c3 (by rw [hsl]; exact k2_hasslot (c4 k k1)) rfl rfl hdg fun H' e1 e2 e3 => fin H' _ hsl e1 e2 e3
  · rw [if_pos hfin] at hlay
    have hcf : mid.cls = cf := by
      obtain ⟨_, _, c', _, _, _, -, -, hf', -, -, -, hown2, -⟩ := Cond.laysFinal_spec hlay
      have e1 : c' = cf := by have := hi.symm.trans hf'; simp at this; exact this.1.symm
      rw [hdecl] at hown2
      rw [← e1]; exact Option.some.inj (hown.symm.trans hown2)
    have h6 := u_fits hfc hkC hkind (Or.inr hlay) hi (hty k k1) hn hfit
    exact W.putFinK hx hb hown (hts _ k2) hi hst hcf (hnm hini) (by rw [c2]; exact h6) c1 c3 (by rw [hsl]; exact k2_hasslot (c4 k k1)) rfl rfl hdg fun H' e1 e2 e3 => fin H' _ hsl e1 e2 e3
theorem am_cell_put {ci k a : Nat} {v : Value} {H1 : Heap} {I' : Nat → Nat → Int} {L' : Nat → Nat → Int} {R' : Nat → Nat → Option Nat} {q : vw_C} (hk : K a = .inl ci) (hq : am_cls[ci]? = some q) (h : t_OB (am_r G a) (G.1 ci) q.2.2 (G.2.1 ci) H1 (updV (vp_V (am_fs (am_r G) q.2.2 ci I L Rf a)) k v)) (hv : ∀ j, j < q.2.2 → am_fv (am_r G) (am_fty ci j) I' L' R' a j = if j = k then v else am_fv (am_r G) (am_fty ci j) I L Rf a j) : am_cell G K I' L' R' a H1 := by
  unfold am_cell
  rw [hk]
  refine ⟨q, hq, h.to (fun j hj => ?_)⟩
  rw [hv j hj]
  unfold updV
  split
  · rfl
  · exact am_fs_V hj
theorem am_fv_uI {ρ : Nat → Nat} {t : Nat} {a j k : Nat} {x : Int} (ht : j = k → t ≠ 2 ∧ t ≠ 3) : am_fv ρ t (am_u I a k x) L Rf a j = if j = k then .int (Int32.ofInt x) else am_fv ρ t I L Rf a j := by
  unfold am_fv
  by_cases h : j = k
  · subst h
    rw [if_pos rfl]
    split
    · exact absurd rfl (ht rfl).1
    · exact absurd rfl (ht rfl).2
    · simp [am_u]
  · rw [if_neg h]
    split
    · rfl
    · rfl
    · simp [am_u, h]
theorem am_fv_uL {ρ : Nat → Nat} {t : Nat} {a j k : Nat} {x : Int} (ht : j = k → t = 2) : am_fv ρ t I (am_u L a k x) Rf a j = if j = k then .long (Int64.ofInt x) else am_fv ρ t I L Rf a j := by
  by_cases h : j = k
  · rw [if_pos h, ht h]
    subst h
    simp [am_fv, am_u]
  · rw [if_neg h]
    unfold am_fv
    split
    · simp [am_u, h]
    · rfl
    · rfl
theorem am_fv_uR {ρ : Nat → Nat} {t : Nat} {a j k b : Nat} (ht : j = k → t = 3) : am_fv ρ t I L (am_u Rf a k (some b)) a j = if j = k then .ref (ρ b) else am_fv ρ t I L Rf a j := by
  by_cases h : j = k
  · rw [if_pos h, ht h]
    subst h
    simp [am_fv, am_u, va_rf]
  · rw [if_neg h]
    unfold am_fv
    split
    · rfl
    · simp [am_u, h]
    · rfl
theorem am_ft_int {ci k : Nat} {q : vw_C} (h : am_okK ci q) (hk : k < q.2.2) (e : am_fty ci k = 0) : am_ft ci k = .int := by
  have := (h.2.2.2 k hk).1
  rw [e] at this
  exact Option.some.inj this
theorem am_ft_bool {ci k : Nat} {q : vw_C} (h : am_okK ci q) (hk : k < q.2.2) (e : am_fty ci k = 1) : am_ft ci k = .boolean := by
  have := (h.2.2.2 k hk).1
  rw [e] at this
  exact Option.some.inj this
theorem am_ft_long {ci k : Nat} {q : vw_C} (h : am_okK ci q) (hk : k < q.2.2) (e : am_fty ci k = 2) : am_ft ci k = .long := by
  have := (h.2.2.2 k hk).1
  rw [e] at this
  exact Option.some.inj this
theorem am_ft_ref {ci k : Nat} {q : vw_C} (h : am_okK ci q) (hk : k < q.2.2) (e : am_fty ci k = 3) : (∃ n, am_ft ci k = .object n) ∨ ∃ v, am_ft ci k = .array v := by
  have := (h.2.2.2 k hk).1
  rw [e] at this
  obtain ⟨u, h1, h2⟩ := this
  cases h1
  exact h2
theorem am_okP_lt {m ix ci k : Nat} {q : vw_C} (h : am_okP m ix ci k) (hq : am_cls[ci]? = some q) : k < q.2.2 := by
  unfold am_okP am_okP0 at h
  rw [hq] at h
  exact h.1
/-- putfield of an int, a boolean -/
theorem am_W_puti {m pc ix ci k a d : Nat} {rest : List Value} {x : Int} (hrx : -2147483648 ≤ x ∧ x ≤ 2147483647) (hX : am_Ctx G Zc d m p R s mid args meth c) (hH : am_Hp G Zc (n, K, I, L, Rf) H) (hS : va_S (am_A G) s.heap H locs) (ha : am_nc ≤ a) (hk : K a = .inl ci) (hF : am_okP m ix ci k) (hOK : ∀ (ci : Nat) (q : vw_C), am_cls[ci]? = some q → am_okK ci q) (ht : am_fty ci k = 0 ∨ am_fty ci k = 1 ∧ (x = 0 ∨ x = 1)) (hdg : decode (am_by m) pc = .ok (.putfield ix, 3)) {cells slots : Nat}
    (kk : ∀ (H1 : Heap) (locs1 : List Loc), am_Hp G Zc (n, K, am_u I a k x, L, Rf) H1 → va_S (am_A G) s.heap H1 locs1 → W p l e R s mid args below meth c H1 locs1 cells slots Z (F0 mid (pc + 3) lsA rest)) : W p l e R s mid args below meth c H locs cells slots Z (F0 mid pc lsA (.int (Int32.ofInt x) :: .ref (am_r G a) :: rest)) := by
  obtain ⟨q0, hq0, -⟩ := am_P1 hH ha hk
  have hk0 := am_okP_lt hF hq0
  refine am_W_put0 hX hH hS ha hk hF hOK ?_ ?_ hdg (fun H1 locs1 q hq hob z oq hS1 => kk H1 locs1 ?_ hS1)
  · rcases ht with h | ⟨h, hx⟩
    · rw [am_ft_int (hOK ci q0 hq0) hk0 h]; rfl
    · rw [am_ft_bool (hOK ci q0 hq0) hk0 h]; exact am_bool hx
  · rcases ht with h | ⟨h, hx⟩
    · rw [am_ft_int (hOK ci q0 hq0) hk0 h]; rfl
    · rw [am_ft_bool (hOK ci q0 hq0) hk0 h]; rcases hx with rfl | rfl <;> decide +kernel
  · refine hH.write ha (fun b hb => am_u_row hb) (fun _ _ => rfl) (fun _ _ => rfl) z oq (am_cell_put hk hq hob (fun j _ => am_fv_uI (fun e => ?_))) (am_Rg_uI hH.2.2.2.2.2 hrx)
    subst e
    rcases ht with h | ⟨h, -⟩ <;> rw [h] <;> exact ⟨by decide, by decide⟩
/-- putfield of a long -/
theorem am_W_putl {m pc ix ci k a d : Nat} {rest : List Value} {x : Int} (hrx : -9223372036854775808 ≤ x ∧ x ≤ 9223372036854775807) (hX : am_Ctx G Zc d m p R s mid args meth c) (hH : am_Hp G Zc (n, K, I, L, Rf) H) (hS : va_S (am_A G) s.heap H locs) (ha : am_nc ≤ a) (hk : K a = .inl ci) (hF : am_okP m ix ci k) (hOK : ∀ (ci : Nat) (q : vw_C), am_cls[ci]? = some q → am_okK ci q) (ht : am_fty ci k = 2) (hdg : decode (am_by m) pc = .ok (.putfield ix, 3)) {cells slots : Nat}
    (kk : ∀ (H1 : Heap) (locs1 : List Loc), am_Hp G Zc (n, K, I, am_u L a k x, Rf) H1 → va_S (am_A G) s.heap H1 locs1 → W p l e R s mid args below meth c H1 locs1 cells slots Z (F0 mid (pc + 3) lsA rest)) : W p l e R s mid args below meth c H locs cells slots Z (F0 mid pc lsA (.long (Int64.ofInt x) :: .ref (am_r G a) :: rest)) := by
  obtain ⟨q0, hq0, -⟩ := am_P1 hH ha hk
  have hk0 := am_okP_lt hF hq0
  refine am_W_put0 hX hH hS ha hk hF hOK ?_ ?_ hdg (fun H1 locs1 q hq hob z oq hS1 => kk H1 locs1 ?_ hS1)
  · rw [am_ft_long (hOK ci q0 hq0) hk0 ht]; rfl
  · rw [am_ft_long (hOK ci q0 hq0) hk0 ht]; rfl
  · refine hH.write ha (fun _ _ => rfl) (fun b hb => am_u_row hb) (fun _ _ => rfl) z oq (am_cell_put hk hq hob (fun j _ => am_fv_uL (fun e => ?_))) (am_Rg_uL hH.2.2.2.2.2 hrx)
    subst e
    exact ht
/-- putfield of a reference -/
theorem am_W_putr {m pc ix ci k a d b : Nat} {rest : List Value} (hX : am_Ctx G Zc d m p R s mid args meth c) (hH : am_Hp G Zc (n, K, I, L, Rf) H) (hS : va_S (am_A G) s.heap H locs) (ha : am_nc ≤ a) (hk : K a = .inl ci) (hF : am_okP m ix ci k) (hOK : ∀ (ci : Nat) (q : vw_C), am_cls[ci]? = some q → am_okK ci q) (ht : am_fty ci k = 3) (hdg : decode (am_by m) pc = .ok (.putfield ix, 3)) {cells slots : Nat}
    (kk : ∀ (H1 : Heap) (locs1 : List Loc), am_Hp G Zc (n, K, I, L, am_u Rf a k (some b)) H1 → va_S (am_A G) s.heap H1 locs1 → W p l e R s mid args below meth c H1 locs1 cells slots Z (F0 mid (pc + 3) lsA rest)) : W p l e R s mid args below meth c H locs cells slots Z (F0 mid pc lsA (.ref (am_r G b) :: .ref (am_r G a) :: rest)) := by
  obtain ⟨q0, hq0, -⟩ := am_P1 hH ha hk
  have hk0 := am_okP_lt hF hq0
  refine am_W_put0 hX hH hS ha hk hF hOK ?_ ?_ hdg (fun H1 locs1 q hq hob z oq hS1 => kk H1 locs1 ?_ hS1)
  · rcases am_ft_ref (hOK ci q0 hq0) hk0 ht with ⟨u, h⟩ | ⟨u, h⟩ <;> rw [h] <;> rfl
  · rcases am_ft_ref (hOK ci q0 hq0) hk0 ht with ⟨u, h⟩ | ⟨u, h⟩ <;> rw [h] <;> rfl
  · refine hH.write ha (fun _ _ => rfl) (fun _ _ => rfl) (fun b hb => am_u_row hb) z oq (am_cell_put hk hq hob (fun j _ => am_fv_uR (fun e => ?_))) hH.2.2.2.2.2
    subst e
    exact ht
/-- arrays: the cell -/
theorem am_arr {t len a : Nat} (hH : am_Hp G Zc (n, K, I, L, Rf) H) (ha : am_nc ≤ a) (hk : K a = .inr (t, len)) (ht : t < 9) : H[am_r G a]? = some (arrV (G.2.2.1 t) len (fun j => am_fv (am_r G) t I L Rf a j)) := by
  have hlt : a < n := hH.lt (by rw [hk]; intro q; cases q; omega)
  have h1 := hH.2.2.2.1 a ha hlt
  unfold am_cell at h1
  rw [hk] at h1
  exact h1
theorem am_arrC {t len a d m : Nat} (hX : am_Ctx G Zc d m p R s mid args meth c) (hH : am_Hp G Zc (n, K, I, L, Rf) H) (ha : a < am_nc) (hk : K a = .inr (t, len)) (ht : t < 9) (ht2 : t ≠ 2) : va_T (am_ty t) (am_r G a) len (fun j => am_fv (am_r G) t I L Rf a j) (am_A G) s s.heap := by
  obtain ⟨-, -, -, -, -, -, -, hCs, -⟩ := hX
  obtain ⟨z1, z2, z3⟩ := hH.2.2.2.2.1 a ha
  have h1 := hCs.1 a ha
  rw [← z1, hk] at h1
  have h2 := h1 ht
  have e : (fun j => am_fv (am_r G) t Zc.2.1 (fun _ _ => 0) Zc.2.2 a j) = fun j => am_fv (am_r G) t I L Rf a j := by
    funext j
    unfold am_fv
    split
    · exact absurd rfl ht2
    · rw [z3]
    · rw [z2]
  rw [e] at h2
  exact h2
theorem am_in_rd {cA : ClassId} {len : Nat} {f : Nat → Value} {j : Int32} (hin : vp_in j len) : ¬ (j < 0 ∨ (arrV cA len f).slots.size ≤ j.toNatClampNeg) ∧ (arrV cA len f).slots[j.toNatClampNeg]? = some (f j.toNatClampNeg) := by
  have hlt : j.toNatClampNeg < len := Nat.not_le.mp fun q => hin (Or.inr q)
  exact ⟨by rw [arrV_size]; exact hin, arrV_read _ _ hlt⟩
theorem am_W_iald {m pc a d len : Nat} {j : Int} {rest : List Value} (hX : am_Ctx G Zc d m p R s mid args meth c) (hH : am_Hp G Zc (n, K, I, L, Rf) H) (hS : va_S (am_A G) s.heap H locs) (hk : K a = .inr (0, len)) (hj : 0 ≤ j ∧ j < (len : Int)) (hrj : -2147483648 ≤ j ∧ j ≤ 2147483647) (hdg : decode (am_by m) pc = .ok (.iaload, 1)) {cells slots : Nat}
    (kk : W p l e R s mid args below meth c H locs cells slots Z (F0 mid (pc + 1) lsA (.int (Int32.ofInt (I a j.toNat)) :: rest))) : W p l e R s mid args below meth c H locs cells slots Z (F0 mid pc lsA (.int (Int32.ofInt j) :: .ref (am_r G a) :: rest)) := by
  obtain ⟨hix, hin⟩ := am_ixI hj hrj
  rw [← hix] at kk
  by_cases ha : a < am_nc
  · have hT := am_arrC hX hH ha hk (by decide) (by decide)
    obtain ⟨hx, hb, -⟩ := hX
    exact va_ti hx hb hT hS hin rfl hdg kk
  · have hc := am_arr hH (by omega) hk (by decide)
    obtain ⟨hx, hb, -, -, -, -, hK, -⟩ := hX
    exact W.iald (v := .int (Int32.ofInt (I a (Int32.ofInt j).toNatClampNeg))) hx hb hc ((hK.2 0 _ rfl).1 _ _) (fun q => by cases q) (am_in_rd hin).1 (am_in_rd hin).2 rfl rfl hdg kk
theorem am_W_lald {m pc a d len : Nat} {j : Int} {rest : List Value} (hX : am_Ctx G Zc d m p R s mid args meth c) (hH : am_Hp G Zc (n, K, I, L, Rf) H) (ha : am_nc ≤ a) (hk : K a = .inr (2, len)) (hj : 0 ≤ j ∧ j < (len : Int)) (hrj : -2147483648 ≤ j ∧ j ≤ 2147483647) (hdg : decode (am_by m) pc = .ok (.laload, 1)) {cells slots : Nat}
    (kk : W p l e R s mid args below meth c H locs cells slots Z (F0 mid (pc + 1) lsA (.long (Int64.ofInt (L a j.toNat)) :: rest))) : W p l e R s mid args below meth c H locs cells slots Z (F0 mid pc lsA (.int (Int32.ofInt j) :: .ref (am_r G a) :: rest)) := by
  obtain ⟨hix, hin⟩ := am_ixI hj hrj
  rw [← hix] at kk
  have hc := am_arr hH ha hk (by decide)
  obtain ⟨hx, hb, -, -, -, -, hK, -⟩ := hX
  exact W.lald (v := .long (Int64.ofInt (L a (Int32.ofInt j).toNatClampNeg))) hx hb hc ((hK.2 2 _ rfl).1 _ _) (fun q => by cases q) (am_in_rd hin).1 (am_in_rd hin).2 rfl rfl hdg kk
theorem am_W_bald {m pc a d len : Nat} {j : Int} {rest : List Value} (hX : am_Ctx G Zc d m p R s mid args meth c) (hH : am_Hp G Zc (n, K, I, L, Rf) H) (hS : va_S (am_A G) s.heap H locs) (hk : am_nc ≤ a ∧ K a = .inr (1, len) ∨ K a = .inr (4, len)) (hj : 0 ≤ j ∧ j < (len : Int)) (hrj : -2147483648 ≤ j ∧ j ≤ 2147483647) (hdg : decode (am_by m) pc = .ok (.baload, 1)) {cells slots : Nat}
    (kk : W p l e R s mid args below meth c H locs cells slots Z (F0 mid (pc + 1) lsA (.int (Int32.ofInt (I a j.toNat)) :: rest))) : W p l e R s mid args below meth c H locs cells slots Z (F0 mid pc lsA (.int (Int32.ofInt j) :: .ref (am_r G a) :: rest)) := by
  obtain ⟨hix, hin⟩ := am_ixI hj hrj
  rw [← hix] at kk
  rcases hk with ⟨ha, hk⟩ | hk
  · have hc := am_arr hH ha hk (by decide)
    obtain ⟨hx, hb, -, -, -, -, hK, -⟩ := hX
    exact W.zald (v := .int (Int32.ofInt (I a (Int32.ofInt j).toNatClampNeg))) hx hb hc ((hK.2 1 _ rfl).1 _ _) (fun q => by cases q) (am_in_rd hin).1 (am_in_rd hin).2 rfl rfl hdg kk
  · by_cases ha : a < am_nc
    · have hT := am_arrC hX hH ha hk (by decide) (by decide)
      obtain ⟨hx, hb, -⟩ := hX
      exact va_tb hx hb hT hS hin rfl hdg kk
    · have hc := am_arr hH (by omega) hk (by decide)
      obtain ⟨hx, hb, -, -, -, -, hK, -⟩ := hX
      exact W.bald (v := .int (Int32.ofInt (I a (Int32.ofInt j).toNatClampNeg))) hx hb hc ((hK.2 3 _ rfl).1 _ _) (fun q => by cases q) (am_in_rd hin).1 (am_in_rd hin).2 rfl rfl hdg kk
theorem am_W_alen {m pc a d len t : Nat} {rest : List Value} (hX : am_Ctx G Zc d m p R s mid args meth c) (hH : am_Hp G Zc (n, K, I, L, Rf) H) (hS : va_S (am_A G) s.heap H locs) (hk : K a = .inr (t, len)) (ht : a < am_nc ∧ t < 9 ∧ t ≠ 2 ∨ am_nc ≤ a ∧ (t < 3 ∨ t = 4)) (hdg : decode (am_by m) pc = .ok (.arraylength, 1)) {cells slots : Nat}
    (kk : W p l e R s mid args below meth c H locs cells slots Z (F0 mid (pc + 1) lsA (.int (Int32.ofInt (len : Int)) :: rest))) : W p l e R s mid args below meth c H locs cells slots Z (F0 mid pc lsA (.ref (am_r G a) :: rest)) := by
  rw [Int32.ofInt_eq_ofNat] at kk
  rcases ht with ⟨ha, h9, h2⟩ | ⟨ha, h3⟩
  · have hT := am_arrC hX hH ha hk h9 h2
    obtain ⟨hx, hb, -⟩ := hX
    exact va_tlen hx hb hT hS rfl hdg kk
  · have hc := am_arr hH ha hk (by omega)
    obtain ⟨hx, hb, -, -, -, -, hK, -⟩ := hX
    match t, h3, hc with
    | 4, _, hc => exact W.alen (n := Int32.ofNat len) hx hb hc ((hK.2 3 _ rfl).1 _ _) (by rw [arrV_size]) rfl rfl hdg kk
    | 3, h3, _ => exact absurd h3 (by decide)
    | t + 5, h3, _ => exact absurd h3 (by omega)
    | 0, _, hc => exact W.alen (n := Int32.ofNat len) hx hb hc ((hK.2 0 _ rfl).1 _ _) (by rw [arrV_size]) rfl rfl hdg kk
    | 1, _, hc => exact W.alen (n := Int32.ofNat len) hx hb hc ((hK.2 1 _ rfl).1 _ _) (by rw [arrV_size]) rfl rfl hdg kk
    | 2, _, hc => exact W.alen (n := Int32.ofNat len) hx hb hc ((hK.2 2 _ rfl).1 _ _) (by rw [arrV_size]) rfl rfl hdg kk
theorem am_cell_ast {t len a i : Nat} {x : Value} {H1 : Heap} {I' : Nat → Nat → Int} {L' : Nat → Nat → Int} (hk : K a = .inr (t, len)) (h : H1[am_r G a]? = some ((arrV (G.2.2.1 t) len (fun j => am_fv (am_r G) t I L Rf a j)).setSlot i x)) (hv : ∀ j, am_fv (am_r G) t I' L' Rf a j = if j = i then x else am_fv (am_r G) t I L Rf a j) : am_cell G K I' L' Rf a H1 := by
  unfold am_cell
  rw [hk]
  dsimp only
  rw [h, arrV_store]
  congr 2
  funext j
  rw [hv j]
  rfl
theorem am_W_iast {m pc a d len : Nat} {j x : Int} {rest : List Value} (hX : am_Ctx G Zc d m p R s mid args meth c) (hH : am_Hp G Zc (n, K, I, L, Rf) H) (hS : va_S (am_A G) s.heap H locs) (ha : am_nc ≤ a) (hk : K a = .inr (0, len)) (hj : 0 ≤ j ∧ j < (len : Int)) (hrj : -2147483648 ≤ j ∧ j ≤ 2147483647) (hrx : -2147483648 ≤ x ∧ x ≤ 2147483647) (hdg : decode (am_by m) pc = .ok (.iastore, 1)) {cells slots : Nat}
    (kk : ∀ (H1 : Heap) (locs1 : List Loc), am_Hp G Zc (n, K, am_u I a j.toNat x, L, Rf) H1 → va_S (am_A G) s.heap H1 locs1 → W p l e R s mid args below meth c H1 locs1 cells slots Z (F0 mid (pc + 1) lsA rest)) : W p l e R s mid args below meth c H locs cells slots Z (F0 mid pc lsA (.int (Int32.ofInt x) :: .int (Int32.ofInt j) :: .ref (am_r G a) :: rest)) := by
  obtain ⟨hix, hin⟩ := am_ixI hj hrj
  rw [← hix] at kk
  have hc := am_arr hH ha hk (by decide)
  obtain ⟨hx, hb, -, -, -, -, hK, -⟩ := hX
  refine W.iast hx hb hc ((hK.2 0 _ rfl).1 _ _) (fun q => by cases q) (am_in_rd hin).1 rfl rfl hdg fun H1 e1 z oq => kk H1 _ ?_ (hS.put z oq (am_r_A ha))
  exact hH.write ha (fun b hb => am_u_row hb) (fun _ _ => rfl) (fun _ _ => rfl) z oq (am_cell_ast hk e1 (fun j => am_fv_uI (fun _ => ⟨by decide, by decide⟩))) (am_Rg_uI hH.2.2.2.2.2 hrx)
theorem am_W_bast {m pc a d len : Nat} {j x : Int} {rest : List Value} (hX : am_Ctx G Zc d m p R s mid args meth c) (hH : am_Hp G Zc (n, K, I, L, Rf) H) (hS : va_S (am_A G) s.heap H locs) (ha : am_nc ≤ a) (hk : K a = .inr (1, len) ∧ (x = 0 ∨ x = 1) ∨ K a = .inr (4, len) ∧ (-128 ≤ x ∧ x ≤ 127)) (hj : 0 ≤ j ∧ j < (len : Int)) (hrj : -2147483648 ≤ j ∧ j ≤ 2147483647) (hdg : decode (am_by m) pc = .ok (.bastore, 1)) {cells slots : Nat}
    (kk : ∀ (H1 : Heap) (locs1 : List Loc), am_Hp G Zc (n, K, am_u I a j.toNat x, L, Rf) H1 → va_S (am_A G) s.heap H1 locs1 → W p l e R s mid args below meth c H1 locs1 cells slots Z (F0 mid (pc + 1) lsA rest)) : W p l e R s mid args below meth c H locs cells slots Z (F0 mid pc lsA (.int (Int32.ofInt x) :: .int (Int32.ofInt j) :: .ref (am_r G a) :: rest)) := by
  obtain ⟨hix, hin⟩ := am_ixI hj hrj
  rw [← hix] at kk
  rcases hk with ⟨hk, hx01⟩ | ⟨hk, hx01⟩
  · have hc := am_arr hH ha hk (by decide)
    obtain ⟨hx, hb, -, -, -, -, hK, -⟩ := hX
    refine W.zast hx hb hc ((hK.2 1 _ rfl).1 _ _) (fun q => by cases q) (am_in_rd hin).1 rfl rfl hdg fun H1 e1 z oq => kk H1 _ ?_ (hS.put z oq (am_r_A ha))
    rw [am_bool hx01] at e1
    exact hH.write ha (fun b hb => am_u_row hb) (fun _ _ => rfl) (fun _ _ => rfl) z oq (am_cell_ast hk e1 (fun j => am_fv_uI (fun _ => ⟨by decide, by decide⟩))) (am_Rg_uI hH.2.2.2.2.2 (by omega))
  · have hc := am_arr hH ha hk (by decide)
    obtain ⟨hx, hb, -, -, -, -, hK, -⟩ := hX
    refine W.bast hx hb hc ((hK.2 3 _ rfl).1 _ _) (fun q => by cases q) (am_in_rd hin).1 rfl rfl hdg fun H1 e1 z oq => kk H1 _ ?_ (hS.put z oq (am_r_A ha))
    rw [am_byte hx01] at e1
    exact hH.write ha (fun b hb => am_u_row hb) (fun _ _ => rfl) (fun _ _ => rfl) z oq (am_cell_ast hk e1 (fun j => am_fv_uI (fun _ => ⟨by decide, by decide⟩))) (am_Rg_uI hH.2.2.2.2.2 (by omega))
theorem am_W_last {m pc a d len : Nat} {j x : Int} {rest : List Value} (hX : am_Ctx G Zc d m p R s mid args meth c) (hH : am_Hp G Zc (n, K, I, L, Rf) H) (hS : va_S (am_A G) s.heap H locs) (ha : am_nc ≤ a) (hk : K a = .inr (2, len)) (hj : 0 ≤ j ∧ j < (len : Int)) (hrj : -2147483648 ≤ j ∧ j ≤ 2147483647) (hrx : -9223372036854775808 ≤ x ∧ x ≤ 9223372036854775807) (hdg : decode (am_by m) pc = .ok (.lastore, 1)) {cells slots : Nat}
    (kk : ∀ (H1 : Heap) (locs1 : List Loc), am_Hp G Zc (n, K, I, am_u L a j.toNat x, Rf) H1 → va_S (am_A G) s.heap H1 locs1 → W p l e R s mid args below meth c H1 locs1 cells slots Z (F0 mid (pc + 1) lsA rest)) : W p l e R s mid args below meth c H locs cells slots Z (F0 mid pc lsA (.long (Int64.ofInt x) :: .int (Int32.ofInt j) :: .ref (am_r G a) :: rest)) := by
  obtain ⟨hix, hin⟩ := am_ixI hj hrj
  rw [← hix] at kk
  have hc := am_arr hH ha hk (by decide)
  obtain ⟨hx, hb, -, -, -, -, hK, -⟩ := hX
  refine W.last hx hb hc ((hK.2 2 _ rfl).1 _ _) (fun q => by cases q) (am_in_rd hin).1 rfl rfl hdg fun H1 e1 z oq => kk H1 _ ?_ (hS.put z oq (am_r_A ha))
  exact hH.write ha (fun _ _ => rfl) (fun b hb => am_u_row hb) (fun _ _ => rfl) z oq (am_cell_ast hk e1 (fun j => am_fv_uL (fun _ => rfl))) (am_Rg_uL hH.2.2.2.2.2 hrx)
/-- new -/
theorem am_W_new {m pc ix ci d : Nat} {rest : List Value} {q : vw_C} (hX : am_Ctx G Zc d m p R s mid args meth c) (hH : am_Hp G Zc (n, K, I, L, Rf) H) (hS : va_S (am_A G) s.heap H locs) (hq : am_cls[ci]? = some q) (hOK : am_okK ci q) (h1 : am_gw (Cond.classLink (am_y m).cls ix q.1)) (h2 : am_gw (Cond.instantiable q.1 q.2.2)) (h3 : am_gw (Cond.initialized q.1)) (hdg : decode (am_by m) pc = .ok (.new ix, 3)) {cells slots : Nat} (hc : cells + 1 ≤ R.cells) (hs : slots + q.2.2 ≤ R.slots)
    (kk : ∀ (H1 : Heap), am_Hp G Zc (n + 1, am_uK K n (.inl ci), am_z I n 0, am_z L n 0, am_z Rf n none) H1 → va_S (am_A G) s.heap H1 locs → W p l e R s mid args below meth c H1 locs (cells + 1) (slots + q.2.2) Z (F0 mid (pc + 3) lsA (.ref (am_r G n) :: rest))) : W p l e R s mid args below meth c H locs cells slots Z (F0 mid pc lsA rest) := by
  obtain ⟨hx, hb, hml, hown, hnm, hts, hK, hCs, hB, -⟩ := hX
  have hKn := hK.1 ci _ hq
  refine W.newcK hx hb hown (hts _ h1) (hts _ h2) (hts _ h3) rfl hdg hc hs hKn.2.1 hH.top fun H1 kC hkC e1 z1 o1 => kk H1 ?_ ⟨Nat.le_trans hS.1 (by rw [z1, hH.top]; omega), fun x g1 g2 => (o1 x (Nat.lt_of_lt_of_le g1 (by rw [← hH.top]; exact hS.1))).trans (hS.2.1 x g1 g2), hS.2.2⟩
  refine hH.grow (by rw [z1, hH.top]) (by rw [hH.top]; exact o1) ?_
  unfold am_cell
  rw [show am_uK K n (.inl ci) n = .inl ci by simp [am_uK]]
  refine ⟨q, hq, (u_born (am_ft ci) hts hOK.1 hKn hkC e1 hOK.2.1).to (fun k hk => ?_)⟩
  obtain ⟨g1, g2⟩ := hOK.2.2.2 k hk
  have four : am_fty ci k = 0 ∨ am_fty ci k = 1 ∨ am_fty ci k = 2 ∨ am_fty ci k = 3 := by omega
  rcases four with h | h | h | h
  · rw [am_ft_int hOK hk h, h]; simp [am_fv, am_z, defaultValue] <;> decide
  · rw [am_ft_bool hOK hk h, h]; simp [am_fv, am_z, defaultValue] <;> decide
  · rw [am_ft_long hOK hk h, h]; simp [am_fv, am_z, defaultValue] <;> decide
  · rcases am_ft_ref hOK hk h with ⟨u, hu⟩ | ⟨u, hu⟩ <;> rw [hu, h] <;> simp [am_fv, am_z, defaultValue, va_rf]
/-- newarray -/
theorem am_W_newa {m pc d : Nat} {t : Jvm.ClassFile.ArrayType} {x : Int} {rest : List Value} (hrx : -2147483648 ≤ x ∧ x ≤ 2147483647) (hX : am_Ctx G Zc d m p R s mid args meth c) (hH : am_Hp G Zc (n, K, I, L, Rf) H) (hS : va_S (am_A G) s.heap H locs) (ht : am_tc t ≤ 2 ∨ am_tc t = 4) (hw : am_gw (Cond.arrayClass (newarray.typeOf t))) (hdg : decode (am_by m) pc = .ok (.newarray t, 2)) {cells slots : Nat} (hx0 : 0 ≤ x) (h6 : x.toNat ≤ 60000000) (hc : cells + 1 ≤ R.cells) (hs : slots + x.toNat ≤ R.slots)
    (kk : ∀ (H1 : Heap), am_Hp G Zc (n + 1, am_uK K n (.inr (am_tc t, x.toNat)), am_z I n 0, am_z L n 0, am_z Rf n none) H1 → va_S (am_A G) s.heap H1 locs → W p l e R s mid args below meth c H1 locs (cells + 1) (slots + x.toNat) Z (F0 mid (pc + 2) lsA (.ref (am_r G n) :: rest))) : W p l e R s mid args below meth c H locs cells slots Z (F0 mid pc lsA (.int (Int32.ofInt x) :: rest)) := by
  obtain ⟨hx, hb, hml, hown, hnm, hts, hK, hCs, hB, -⟩ := hX
  have core : ∀ (t0 t1 : Nat) (ty : FieldType) (z : Value), newarray.typeOf t = ty → am_tc t = t0 → (am_tys G)[t1]? = some (G.2.2.1 t0, ty) → defaultValue ty = z → componentBytes ty ≤ 8 → (∀ (cA : ClassId), va_RA s cA ty → s.vm.findClass ("[" ++ ty.toString) = some cA) → (∀ j, am_fv (am_r G) t0 (am_z I n 0) (am_z L n 0) (am_z Rf n none) n j = z) → W p l e R s mid args below meth c H locs cells slots Z (F0 mid pc lsA (.int (Int32.ofInt x) :: rest)) := by
    intro t0 t1 ty z e1 e2 e3 e4 e5 e6 e7
    subst e1
    have hxn : (Int32.ofInt x).toNatClampNeg = x.toNat := by rw [Int32.toNatClampNeg, am_to hrx]
    have hx1 : ¬ Int32.ofInt x < 0 := by
      rw [am_zI, am_ltI hrx ⟨by decide, by decide⟩]
      omega
    refine va_newaK (N := x.toNat) hx hb (hts _ hw) rfl hdg rfl hx1 hxn (Nat.le_trans (Nat.mul_le_mul h6 e5) (by decide)) hc hs hH.top fun H1 cA g1 z1 o1 hAr hNm => kk H1 ?_ ⟨Nat.le_trans hS.1 (by rw [z1, hH.top]; omega), fun x g1 g2 => (o1 x (Nat.lt_of_lt_of_le g1 (by rw [← hH.top]; exact hS.1))).trans (hS.2.1 x g1 g2), hS.2.2⟩
    refine hH.grow (by rw [z1, hH.top]) (by rw [hH.top]; exact o1) ?_
    unfold am_cell
    rw [show am_uK K n (.inr (am_tc t, x.toNat)) n = .inr (am_tc t, x.toNat) by simp [am_uK]]
    dsimp only
    rw [g1, e2]
    have hcA : cA = G.2.2.1 t0 := Option.some.inj (hNm.symm.trans (e6 _ (hK.2 t1 _ e3).2))
    rw [hcA, e4]
    congr 2
    funext j
    exact (e7 j).symm
  cases t with
  | int => exact core 0 0 .int (.int 0) rfl rfl rfl rfl (by decide) (fun _ h => h) (fun j => by simp [am_fv, am_z] <;> decide)
  | boolean => exact core 1 1 .boolean (.int 0) rfl rfl rfl rfl (by decide) (fun _ h => h) (fun j => by simp [am_fv, am_z] <;> decide)
  | long => exact core 2 2 .long (.long 0) rfl rfl rfl rfl (by decide) (fun _ h => h) (fun j => by simp [am_fv, am_z] <;> decide)
  | byte => exact core 4 3 .byte (.int 0) rfl rfl rfl rfl (by decide) (fun _ h => h) (fun j => by simp [am_fv, am_z] <;> decide)
  | char => exact absurd ht (by decide)
  | short => exact absurd ht (by decide)
  | float => exact absurd ht (by decide)
  | double => exact absurd ht (by decide)
end AMH
