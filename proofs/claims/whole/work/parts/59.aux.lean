/-! SHORT ROADS for the walks -/
def am_Kt (a : Nat) : Option (Nat × am_K) := am_Kl[a - 1]?
def am_Rt (a k : Nat) : Option (Nat × Nat × Nat) := am_Rl.find? (fun q => Nat.beq q.1 a && Nat.beq q.2.1 k)
theorem am_kk {K : Nat → am_K} {R : Nat → Nat → Option Nat} {a : Nat} {v : am_K} (h : am_B K R) (e : am_Kt a = some (a, v)) : K a = v := h.1 _ (List.mem_of_getElem? e)
theorem am_rf {K : Nat → am_K} {R : Nat → Nat → Option Nat} {a k b : Nat} (h : am_B K R) (e : am_Rt a k = some (a, k, b)) : R a k = some b := h.2 _ (List.mem_of_find?_eq_some e)
theorem am_ar_i {e : Int} {f : Int → Prop} (h1 : -2147483648 ≤ e) (h2 : e ≤ 2147483647) (h : f e) : am_ar e f := by
  intro z q hz _ _
  have : z = e := by omega
  rw [this]; exact h
theorem am_al_i {e : Int} {f : Int → Prop} (h1 : -9223372036854775808 ≤ e) (h2 : e ≤ 9223372036854775807) (h : f e) : am_al e f := by
  intro z q hz _ _
  have : z = e := by omega
  rw [this]; exact h
theorem am_nm_k {e v : Int} {f : Int → Prop} (h : e = v) (g : am_nm v f) : am_nm e f := by rw [h]; exact g
theorem am_nl_k {e v : Int} {f : Int → Prop} (h : e = v) (g : am_nl v f) : am_nl e f := by rw [h]; exact g
theorem am_nm_ne {F : Nat → Nat → Int} {a k b j : Nat} {v : Int} {f : Int → Prop} (h : b ≠ a) (g : am_nm (F b j) f) : am_nm (am_u F a k v b j) f := by rw [am_u_ne h]; exact g
theorem am_nm_eq {F : Nat → Nat → Int} {a k : Nat} {v : Int} {f : Int → Prop} (g : am_nm v f) : am_nm (am_u F a k v a k) f := by
  have e : am_u F a k v a k = v := by simp [am_u]
  rw [e]; exact g
theorem am_nm_ie {F : Nat → Nat → Int} {a k j : Nat} {v : Int} {f : Int → Prop} (h : j ≠ k) (g : am_nm (F a j) f) : am_nm (am_u F a k v a j) f := by
  have e : am_u F a k v a j = F a j := by simp [am_u, h]
  rw [e]; exact g
theorem am_nl_ne {F : Nat → Nat → Int} {a k b j : Nat} {v : Int} {f : Int → Prop} (h : b ≠ a) (g : am_nl (F b j) f) : am_nl (am_u F a k v b j) f := by rw [am_u_ne h]; exact g
theorem am_nl_eq {F : Nat → Nat → Int} {a k : Nat} {v : Int} {f : Int → Prop} (g : am_nl v f) : am_nl (am_u F a k v a k) f := by
  have e : am_u F a k v a k = v := by simp [am_u]
  rw [e]; exact g
theorem am_u_at {f : Nat → Nat → Int} {a k j : Nat} {v : Int} : am_u f a k v a j = if j = k then v else f a j := by simp [am_u]
theorem am_u_kk {f : Nat → Nat → Int} {a k : Nat} {v : Int} : am_u f a k v a k = v := by simp [am_u]
theorem am_u_kn {f : Nat → Nat → Int} {a k j : Nat} {v : Int} (h : j ≠ k) : am_u f a k v a j = f a j := by simp [am_u, h]
/-! longs: a byte behind -/
theorem am_lsh8 {x : Int} (h0 : 0 ≤ x) (h1 : x < 36028797018963968) : am_lshl x 8 = x * 256 := by
  unfold am_lshl
  have e : Int64.ofInt x <<< ((Int32.ofInt 8).toInt64 &&& 63) = Int64.ofInt (x * 256) := by
    apply Int64.toBitVec_inj.mp
    show (Int64.ofInt x).toBitVec <<< ((((Int32.ofInt 8).toInt64 &&& 63).toBitVec.smod 64#64).toNat) = _
    rw [show ((((Int32.ofInt 8).toInt64 &&& 63).toBitVec.smod 64#64).toNat) = 8 by decide]
    obtain ⟨n, rfl⟩ := Int.eq_ofNat_of_zero_le h0
    apply BitVec.eq_of_toNat_eq
    rw [BitVec.toNat_shiftLeft, Int64.toBitVec_ofInt, Int64.toBitVec_ofInt, BitVec.toNat_ofInt, BitVec.toNat_ofInt, Nat.shiftLeft_eq]
    omega
  rw [e, Int64.toInt_ofInt_of_le (by omega) (by omega)]
theorem am_lorb {x y : Int} (h0 : 0 ≤ x) (h1 : x < 36028797018963968) (hy : 0 ≤ y ∧ y < 256) : am_lor (x * 256) y = x * 256 + y := by
  unfold am_lor
  have e : Int64.ofInt (x * 256) ||| Int64.ofInt y = Int64.ofInt (x * 256 + y) := by
    apply Int64.toBitVec_inj.mp
    show (Int64.ofInt (x * 256)).toBitVec ||| (Int64.ofInt y).toBitVec = _
    obtain ⟨n, rfl⟩ := Int.eq_ofNat_of_zero_le h0
    obtain ⟨m, rfl⟩ := Int.eq_ofNat_of_zero_le hy.1
    apply BitVec.eq_of_toNat_eq
    rw [BitVec.toNat_or, Int64.toBitVec_ofInt, Int64.toBitVec_ofInt, Int64.toBitVec_ofInt, BitVec.toNat_ofInt, BitVec.toNat_ofInt, BitVec.toNat_ofInt]
    have e1 : ((n : Int) * 256 % ((2 ^ 64 : Nat) : Int)).toNat = 256 * n := by omega
    have e2 : ((m : Int) % ((2 ^ 64 : Nat) : Int)).toNat = m := by omega
    have e3 : (((n : Int) * 256 + (m : Int)) % ((2 ^ 64 : Nat) : Int)).toNat = 256 * n + m := by omega
    rw [e1, e2, e3]
    have := Nat.two_pow_add_eq_or_of_lt (i := 8) (b := m) (by omega) n
    simpa using this.symm
  rw [e, Int64.toInt_ofInt_of_le (by omega) (by omega)]
