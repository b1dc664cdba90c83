theorem rem4 (a : Int32) : (a - a / 4 * 4).toInt = a.toInt.tmod 4 := by
  have h4 : (4 : Int32).toInt = 4 := rfl
  have hl := Int32.le_toInt a
  have hu := Int32.toInt_lt a
  have ht := Int.mul_tdiv_add_tmod a.toInt 4
  have hm1 := Int.tmod_lt_of_pos a.toInt (show (0 : Int) < 4 by decide)
  have hm2 := Int.lt_tmod_of_pos a.toInt (show (0 : Int) < 4 by decide)
  have hd : (a / 4).toInt = a.toInt.tdiv 4 := by
    rw [Int32.toInt_div, h4]
    apply Int.bmod_eq_of_le <;> omega
  rw [Int32.toInt_sub, Int32.toInt_mul, hd, h4]
  rw [show (a.toInt - (a.toInt.tdiv 4 * 4).bmod (2 ^ 32)).bmod (2 ^ 32) = (a.toInt - a.toInt.tdiv 4 * 4).bmod (2 ^ 32) by simp]
  rw [show a.toInt - a.toInt.tdiv 4 * 4 = a.toInt.tmod 4 by omega]
  apply Int.bmod_eq_of_le <;> omega
theorem and3 (a : Int32) : (a &&& 3).toInt = a.toInt % 4 := by
  have h1 : (a &&& 3).toInt = (a.toBitVec &&& 3#32).toInt := rfl
  have h2 : a.toInt = a.toBitVec.toInt := rfl
  rw [h1, h2, BitVec.toInt_eq_toNat_cond, BitVec.toInt_eq_toNat_cond, BitVec.toNat_and]
  have h3 : (3#32).toNat = 2 ^ 2 - 1 := rfl
  rw [h3, Nat.and_two_pow_sub_one_eq_mod]
  have := a.toBitVec.isLt
  split <;> split <;> omega
theorem xor4 (a : Int32) : (0 : Int32) ≤ (a ^^^ 4) ↔ 0 ≤ a.toInt := by
  rw [Int32.le_iff_toInt_le]
  have h0 : (0 : Int32).toInt = 0 := rfl
  have h1 : (a ^^^ 4).toInt = (a.toBitVec ^^^ 4#32).toInt := rfl
  have h2 : a.toInt = a.toBitVec.toInt := rfl
  have h3 := BitVec.msb_xor (x := a.toBitVec) (y := 4#32)
  rw [show (4#32).msb = false from rfl, Bool.xor_false, BitVec.msb_eq_toInt, BitVec.msb_eq_toInt, decide_eq_decide] at h3
  rw [h0, h1, h2]
  omega
theorem q_fm {a : Int32} {post : Int32 → Prop} (h : post (a &&& 3)) : wp_ZJ_floorMod a 4 post := by
  have hr := rem4 a
  have ha := and3 a
  have h4 : (4 : Int32).toInt = 4 := rfl
  have h0 : (0 : Int32).toInt = 0 := rfl
  have hl := Int32.le_toInt a
  have hu := Int32.toInt_lt a
  refine ⟨by decide, ⟨fun q => ?_, fun q => ⟨fun e => ?_, fun e => ?_⟩⟩⟩
  · have e : a - a / 4 * 4 = a &&& 3 := by
      apply Int32.toInt_inj.mp
      rw [hr, ha, Int.tmod_eq_emod_of_nonneg ((xor4 a).mp q)]
    rw [e]; exact h
  · have e' : a - a / 4 * 4 = a &&& 3 := by
      apply Int32.toInt_inj.mp
      have e1 := congrArg Int32.toInt e
      rw [hr, h0] at e1
      have := Int.mul_tdiv_add_tmod a.toInt 4
      rw [hr, ha]
      omega
    rw [e']; exact h
  · have e' : a - a / 4 * 4 + 4 = a &&& 3 := by
      apply Int32.toInt_inj.mp
      have e1 : ¬ a.toInt.tmod 4 = 0 := fun z => e (Int32.toInt_inj.mp (by rw [hr, h0]; exact z))
      have e2 : ¬ 0 ≤ a.toInt := fun z => q ((xor4 a).mpr z)
      have e3 := Int.mul_tdiv_add_tmod a.toInt 4
      have hm2 := Int.lt_tmod_of_pos a.toInt (show (0 : Int) < 4 by decide)
      have hm3 : a.toInt.tmod 4 ≤ 0 := by
        have q1 := Int.tmod_nonneg (a := -a.toInt) 4 (by omega)
        rw [Int.neg_tmod] at q1
        omega
      rw [Int32.toInt_add, hr, ha, h4]
      rw [show (a.toInt.tmod 4 + 4).bmod (2 ^ 32) = a.toInt.tmod 4 + 4 by apply Int.bmod_eq_of_le <;> omega]
      omega
    rw [e']; exact h
theorem q4 (a : Int32) : a &&& 3 = 0 ∨ a &&& 3 = 1 ∨ a &&& 3 = 2 ∨ a &&& 3 = 3 := by
  have ha := and3 a
  have h := Int.emod_lt_of_pos a.toInt (show (0 : Int) < 4 by decide)
  have h' := Int.emod_nonneg a.toInt (show (4 : Int) ≠ 0 by decide)
  have k : (a &&& 3).toInt = 0 ∨ (a &&& 3).toInt = 1 ∨ (a &&& 3).toInt = 2 ∨ (a &&& 3).toInt = 3 := by omega
  rcases k with k | k | k | k
  · exact Or.inl (Int32.toInt_inj.mp k)
  · exact Or.inr (Or.inl (Int32.toInt_inj.mp k))
  · exact Or.inr (Or.inr (Or.inl (Int32.toInt_inj.mp k)))
  · exact Or.inr (Or.inr (Or.inr (Int32.toInt_inj.mp k)))
/-- the picture's sides as they lie after q quarters, and where a place of it comes from -/
def tuw (W H : Nat) (q : Int32) : Nat := if q = 1 ∨ q = 3 then H else W
def tux (W : Nat) (q : Int32) (x y : Nat) : Nat := if q = 0 then x else if q = 1 then y else if q = 2 then W - 1 - x else W - 1 - y
def tuy (H : Nat) (q : Int32) (x y : Nat) : Nat := if q = 0 then y else if q = 1 then H - 1 - x else if q = 2 then H - 1 - y else x
section QT
variable {pw ph : Int32} {pn : Nat} {pf : Nat → Int32} {gw gh : Int32} {gn : Nat} {gf : Nat → Int32} {yk bl : Int32} {bf : Nat → Int32} {kn : Nat} {kf : Nat → Int32} {sn : Nat} {sf : Nat → Int32} {sd tw th : Int32} {tf : Nat → Int32} {uw uh : Int32} {uf : Nat → Int32}
theorem q_turned {W H : Nat} {P : Nat → Nat → Nat} (hr : relP W H W pf P) (hW : W ≤ 40) (hH : H ≤ 40) {c : Int32} {x y : Nat} (hx : x < tuw W H (c &&& 3)) (hy : y < tuw H W (c &&& 3)) {post : Int32 → Prop} (h : post (nI (P (tuy H (c &&& 3) x y) (tux W (c &&& 3) x y)))) : wp_ZQ_turned (nI W) (nI H) (W * H) pf gw gh gn gf yk bl bf kn kf sn sf sd tw th tf uw uh uf (nI x) (nI y) c post := by
  refine q_fm ?_
  have hq := q4 c
  generalize c &&& 3 = q at *
  rcases hq with rfl | rfl | rfl | rfl
  · refine ⟨_, fun _ hh => hh, ⟨fun h => absurd h (by decide), fun _ => ⟨fun h => absurd h (by decide), fun _ => ⟨_, fun _ hh => hh, ⟨fun _ => ⟨_, fun _ hh => hh, ⟨fun _ => p_isWithin (by omega) (fun _ => ⟨_, fun _ hh => hh, ⟨fun h => absurd h nz1, fun _ => p_isWithin (by omega) (fun _ => ⟨fun h => absurd h nz1, fun _ => q_reqPlace rfl ⟨fun _ => ?_, fun h => absurd h (by decide), fun h => absurd h (by decide), fun h => absurd h (by decide)⟩⟩) (fun hn => absurd ⟨y, hy, rfl⟩ hn)⟩⟩) (fun hn => absurd ⟨x, hx, rfl⟩ hn), fun h => absurd rfl h⟩⟩, fun h => absurd rfl h⟩⟩⟩⟩⟩
    have hx : x < W := hx
    have hy : y < H := hy
    refine q_sampleAt hW hH hx hy ?_
    rw [hr y x hy hx]; exact h
  · refine ⟨_, fun _ hh => hh, ⟨fun _ => ⟨_, fun _ hh => hh, ⟨fun h => absurd h nz1, fun _ => ⟨_, fun _ hh => hh, ⟨fun h => absurd h nz1, fun _ => p_isWithin (by omega) (fun _ => ⟨_, fun _ hh => hh, ⟨fun h => absurd h nz1, fun _ => p_isWithin (by omega) (fun _ => ⟨fun h => absurd h nz1, fun _ => q_reqPlace rfl ⟨fun h => absurd h (by decide), fun _ => ?_, fun h => absurd h (by decide), fun h => absurd h (by decide)⟩⟩) (fun hn => absurd ⟨y, hy, rfl⟩ hn)⟩⟩) (fun hn => absurd ⟨x, hx, rfl⟩ hn)⟩⟩⟩⟩, fun h => absurd rfl h⟩⟩
    have hx : x < H := hx
    have hy : y < W := hy
    rw [nI_sub1 (by omega), pk_sub (by omega)]
    refine q_sampleAt hW hH hy (by omega) ?_
    rw [hr (H - 1 - x) y (by omega) (by omega)]; exact h
  · refine ⟨_, fun _ hh => hh, ⟨fun h => absurd h (by decide), fun _ => ⟨fun h => absurd h (by decide), fun _ => ⟨_, fun _ hh => hh, ⟨fun _ => ⟨_, fun _ hh => hh, ⟨fun _ => p_isWithin (by omega) (fun _ => ⟨_, fun _ hh => hh, ⟨fun h => absurd h nz1, fun _ => p_isWithin (by omega) (fun _ => ⟨fun h => absurd h nz1, fun _ => q_reqPlace rfl ⟨fun h => absurd h (by decide), fun h => absurd h (by decide), fun _ => ?_, fun h => absurd h (by decide)⟩⟩) (fun hn => absurd ⟨y, hy, rfl⟩ hn)⟩⟩) (fun hn => absurd ⟨x, hx, rfl⟩ hn), fun h => absurd rfl h⟩⟩, fun h => absurd rfl h⟩⟩⟩⟩⟩
    have hx : x < W := hx
    have hy : y < H := hy
    rw [nI_sub1 (by omega), nI_sub1 (by omega), pk_sub (by omega), pk_sub (by omega)]
    refine q_sampleAt hW hH (by omega) (by omega) ?_
    rw [hr (H - 1 - y) (W - 1 - x) (by omega) (by omega)]; exact h
  · refine ⟨_, fun _ hh => hh, ⟨fun h => absurd h (by decide), fun _ => ⟨fun _ => ⟨_, fun _ hh => hh, ⟨fun h => absurd h nz1, fun _ => ⟨_, fun _ hh => hh, ⟨fun h => absurd h nz1, fun _ => p_isWithin (by omega) (fun _ => ⟨_, fun _ hh => hh, ⟨fun h => absurd h nz1, fun _ => p_isWithin (by omega) (fun _ => ⟨fun h => absurd h nz1, fun _ => q_reqPlace rfl ⟨fun h => absurd h (by decide), fun h => absurd h (by decide), fun h => absurd h (by decide), fun _ => ?_⟩⟩) (fun hn => absurd ⟨y, hy, rfl⟩ hn)⟩⟩) (fun hn => absurd ⟨x, hx, rfl⟩ hn)⟩⟩⟩⟩, fun h => absurd rfl h⟩⟩⟩
    have hx : x < H := hx
    have hy : y < W := hy
    rw [nI_sub1 (by omega), pk_sub (by omega)]
    refine q_sampleAt hW hH (by omega) hx ?_
    rw [hr x (W - 1 - y) (by omega) (by omega)]; exact h
theorem q_turned_I {W H : Nat} (hW : W ≤ 40) (hH : H ≤ 40) {a b c : Int32} (hn : ¬ (inN a (tuw W H (c &&& 3)) ∧ inN b (tuw H W (c &&& 3)))) : xp_ZQ_turned_I (nI W) (nI H) pn pf gw gh gn gf yk bl bf kn kf sn sf sd tw th tf uw uh uf a b c := by
  refine q_fm ?_
  have hq := q4 c
  generalize c &&& 3 = q at *
  have E0 : ∀ {X : Int32 → Prop}, X 0 → ∃ J : Int32 → Prop, (∀ t, J t → X t) ∧ J 0 := fun h => ⟨_, fun _ hh => hh, h⟩
  rcases hq with rfl | rfl | rfl | rfl
  · exact ⟨_, fun _ hh => hh, ⟨fun h => absurd h (by decide), fun _ => ⟨fun h => absurd h (by decide), fun _ => ⟨_, fun _ hh => hh, ⟨fun _ => ⟨_, fun _ hh => hh, ⟨fun _ => p_isWithin (by omega) (fun ha => ⟨_, fun _ hh => hh, ⟨fun h => absurd h nz1, fun _ => p_isWithin (by omega) (fun hb => absurd ⟨ha, hb⟩ hn) (fun _ => ⟨fun _ => Or.inl (q_reqPlace_I rfl), fun h => absurd rfl h⟩)⟩⟩) (fun ha => ⟨_, fun _ hh => hh, ⟨fun _ => Or.inl (q_reqPlace_I rfl), fun h => absurd rfl h⟩⟩), fun h => absurd rfl h⟩⟩, fun h => absurd rfl h⟩⟩⟩⟩⟩
  · exact ⟨_, fun _ hh => hh, ⟨fun _ => ⟨_, fun _ hh => hh, ⟨fun h => absurd h nz1, fun _ => ⟨_, fun _ hh => hh, ⟨fun h => absurd h nz1, fun _ => p_isWithin (by omega) (fun ha => ⟨_, fun _ hh => hh, ⟨fun h => absurd h nz1, fun _ => p_isWithin (by omega) (fun hb => absurd ⟨ha, hb⟩ hn) (fun _ => ⟨fun _ => Or.inl (q_reqPlace_I rfl), fun h => absurd rfl h⟩)⟩⟩) (fun ha => ⟨_, fun _ hh => hh, ⟨fun _ => Or.inl (q_reqPlace_I rfl), fun h => absurd rfl h⟩⟩)⟩⟩⟩⟩, fun h => absurd rfl h⟩⟩
  · exact ⟨_, fun _ hh => hh, ⟨fun h => absurd h (by decide), fun _ => ⟨fun h => absurd h (by decide), fun _ => ⟨_, fun _ hh => hh, ⟨fun _ => ⟨_, fun _ hh => hh, ⟨fun _ => p_isWithin (by omega) (fun ha => ⟨_, fun _ hh => hh, ⟨fun h => absurd h nz1, fun _ => p_isWithin (by omega) (fun hb => absurd ⟨ha, hb⟩ hn) (fun _ => ⟨fun _ => Or.inl (q_reqPlace_I rfl), fun h => absurd rfl h⟩)⟩⟩) (fun ha => ⟨_, fun _ hh => hh, ⟨fun _ => Or.inl (q_reqPlace_I rfl), fun h => absurd rfl h⟩⟩), fun h => absurd rfl h⟩⟩, fun h => absurd rfl h⟩⟩⟩⟩⟩
  · exact ⟨_, fun _ hh => hh, ⟨fun h => absurd h (by decide), fun _ => ⟨fun _ => ⟨_, fun _ hh => hh, ⟨fun h => absurd h nz1, fun _ => ⟨_, fun _ hh => hh, ⟨fun h => absurd h nz1, fun _ => p_isWithin (by omega) (fun ha => ⟨_, fun _ hh => hh, ⟨fun h => absurd h nz1, fun _ => p_isWithin (by omega) (fun hb => absurd ⟨ha, hb⟩ hn) (fun _ => ⟨fun _ => Or.inl (q_reqPlace_I rfl), fun h => absurd rfl h⟩)⟩⟩) (fun ha => ⟨_, fun _ hh => hh, ⟨fun _ => Or.inl (q_reqPlace_I rfl), fun h => absurd rfl h⟩⟩)⟩⟩⟩⟩, fun h => absurd rfl h⟩⟩⟩
end QT
section MT
variable {zt zw zh : Int32} {zp zs zb : Nat → Int32} {zz : Int32} {zl zo : Nat → Int32} {zc zr zu zv zq zi : Int32} {zk zm : Nat → Int32} {zd : Int32} {zg : Nat → Int32}
theorem m_turned {W H : Nat} {P : Nat → Nat → Nat} (hr : relP W H 40 zp P) (h1 : 1 ≤ W) (hW : W ≤ 40) (h2 : 1 ≤ H) (hH : H ≤ 40) {a b c : Int32} {post : Int32 → Int32 → Prop} (hI : ¬ (inN a (tuw W H (c &&& 3)) ∧ inN b (tuw H W (c &&& 3))) → post 0 1) (hN : ∀ x y : Nat, a = nI x → x < tuw W H (c &&& 3) → b = nI y → y < tuw H W (c &&& 3) → post (nI (P (tuy H (c &&& 3) x y) (tux W (c &&& 3) x y))) 0) : wp_ZM_turned zt (nI W) (nI H) zp zs zb zz zl zo zc zr zu zv zq zi zk zm zd zg a b c post := by
  unfold wp_ZM_turned
  have hq := q4 c
  generalize c &&& 3 = q at *
  have bad : ∀ {X : Int32 → Int32 → Prop}, X 1 1 → wp_ZM_throwing zt (nI W) (nI H) zp zs zb zz zl zo zc zr zu zv zq zi zk zm zd zg 1 0 X := fun hX => p_throwing (fun _ => hX) (fun h => absurd h nz1) (fun h => absurd h nz1)
  have good : ∀ {X : Int32 → Int32 → Prop}, X 0 0 → wp_ZM_throwing zt (nI W) (nI H) zp zs zb zz zl zo zc zr zu zv zq zi zk zm zd zg 0 0 X := fun hX => p_throwing (fun h => absurd rfl h) (fun _ h => absurd rfl h) (fun _ _ => hX)
  have fin : ∀ {X Y : Nat}, X < W → Y < H → post (nI (P Y X)) 0 → vp_in (((40 : Int32) * nI Y) + nI X) 1600 ∧ (post (zp (((40 : Int32) * nI Y) + nI X).toNatClampNeg) 0) := by
    intro X Y hX hY hp
    have hi : (40 : Int32) * nI Y + nI X = nI (Y * 40 + X) := by
      rw [show (40 : Int32) = nI 40 from rfl, pk_mul, nI_add, Nat.mul_comm]
    rw [hi, nI_clamp (by omega), hr Y X hY hX]
    exact ⟨vp_in_nI (by omega) (by decide), hp⟩
  rcases hq with rfl | rfl | rfl | rfl
  · refine ⟨_, fun _ hh => hh, ⟨fun h => absurd h (by decide), fun _ => ⟨_, fun _ hh => hh, ⟨fun _ => ?_, fun h => absurd rfl h⟩⟩⟩⟩
    rw [nI_sub1 h1, nI_sub1 h2]
    refine p_in0 h1 (by omega) (fun ha => ⟨_, fun _ hh => hh, ⟨fun h => absurd h nz1, fun _ => ⟨_, fun _ hh => hh, ⟨fun _ => ?_, fun h => absurd rfl h⟩⟩⟩⟩) (fun ha => ⟨_, fun _ hh => hh, ⟨fun _ => bad ⟨fun h => absurd h nz1, fun _ => hI (fun q => ha q.1)⟩, fun h => absurd rfl h⟩⟩)
    rw [nI_sub1 h2]
    refine p_in0 h2 (by omega) (fun hb => ⟨fun h => absurd h nz1, fun _ => good ⟨fun _ => ?_, fun h => absurd rfl h⟩⟩) (fun hb => ⟨fun _ => bad ⟨fun h => absurd h nz1, fun _ => hI (fun q => hb q.2)⟩, fun h => absurd rfl h⟩)
    obtain ⟨x, hx, rfl⟩ := ha
    obtain ⟨y, hy, rfl⟩ := hb
    exact ⟨_, fun _ hh => hh, ⟨fun _ => ⟨_, fun _ hh => hh, ⟨fun _ => fin hx hy (hN x y rfl hx rfl hy), fun h => absurd rfl h⟩⟩, fun h => absurd rfl h⟩⟩
  · refine ⟨_, fun _ hh => hh, ⟨fun _ => ⟨_, fun _ hh => hh, ⟨fun h => absurd h nz1, fun _ => ?_⟩⟩, fun h => absurd (by decide) h⟩⟩
    rw [nI_sub1 h1, nI_sub1 h2]
    refine p_in0 h2 (by omega) (fun ha => ⟨_, fun _ hh => hh, ⟨fun h => absurd h nz1, fun _ => ⟨_, fun _ hh => hh, ⟨fun h => absurd h nz1, fun _ => ?_⟩⟩⟩⟩) (fun ha => ⟨_, fun _ hh => hh, ⟨fun _ => bad ⟨fun h => absurd h nz1, fun _ => hI (fun q => ha q.1)⟩, fun h => absurd rfl h⟩⟩)
    rw [nI_sub1 h1]
    refine p_in0 h1 (by omega) (fun hb => ⟨fun h => absurd h nz1, fun _ => good ⟨fun _ => ?_, fun h => absurd rfl h⟩⟩) (fun hb => ⟨fun _ => bad ⟨fun h => absurd h nz1, fun _ => hI (fun q => hb q.2)⟩, fun h => absurd rfl h⟩)
    obtain ⟨x, hx, rfl⟩ := ha
    obtain ⟨y, hy, rfl⟩ := hb
    have hN := hN x y rfl hx rfl hy
    rw [pk_sub (by omega)]
    exact ⟨_, fun _ hh => hh, ⟨fun h => absurd h (by decide), fun _ => ⟨fun _ => ⟨_, fun _ hh => hh, ⟨fun h => absurd h (by decide), fun _ => ⟨fun _ => fin hy (by omega) hN, fun h => absurd rfl h⟩⟩⟩, fun h => absurd rfl h⟩⟩⟩
  · refine ⟨_, fun _ hh => hh, ⟨fun h => absurd h (by decide), fun _ => ⟨_, fun _ hh => hh, ⟨fun _ => ?_, fun h => absurd rfl h⟩⟩⟩⟩
    rw [nI_sub1 h1, nI_sub1 h2]
    refine p_in0 h1 (by omega) (fun ha => ⟨_, fun _ hh => hh, ⟨fun h => absurd h nz1, fun _ => ⟨_, fun _ hh => hh, ⟨fun _ => ?_, fun h => absurd rfl h⟩⟩⟩⟩) (fun ha => ⟨_, fun _ hh => hh, ⟨fun _ => bad ⟨fun h => absurd h nz1, fun _ => hI (fun q => ha q.1)⟩, fun h => absurd rfl h⟩⟩)
    rw [nI_sub1 h2]
    refine p_in0 h2 (by omega) (fun hb => ⟨fun h => absurd h nz1, fun _ => good ⟨fun _ => ?_, fun h => absurd rfl h⟩⟩) (fun hb => ⟨fun _ => bad ⟨fun h => absurd h nz1, fun _ => hI (fun q => hb q.2)⟩, fun h => absurd rfl h⟩)
    obtain ⟨x, hx, rfl⟩ := ha
    obtain ⟨y, hy, rfl⟩ := hb
    have hN := hN x y rfl hx rfl hy
    have hx : x < W := hx
    have hy : y < H := hy
    rw [pk_sub (a := W - 1) (b := x) (by omega), pk_sub (a := H - 1) (b := y) (by omega)]
    exact ⟨_, fun _ hh => hh, ⟨fun h => absurd h (by decide), fun _ => ⟨fun h => absurd h (by decide), fun _ => ⟨fun _ => ⟨_, fun _ hh => hh, ⟨fun h => absurd h (by decide), fun _ => ⟨fun h => absurd h (by decide), fun _ => ⟨fun _ => fin (by omega) (by omega) hN, fun h => absurd rfl h⟩⟩⟩⟩, fun h => absurd rfl h⟩⟩⟩⟩
  · refine ⟨_, fun _ hh => hh, ⟨fun _ => ⟨_, fun _ hh => hh, ⟨fun h => absurd h nz1, fun _ => ?_⟩⟩, fun h => absurd (by decide) h⟩⟩
    rw [nI_sub1 h1, nI_sub1 h2]
    refine p_in0 h2 (by omega) (fun ha => ⟨_, fun _ hh => hh, ⟨fun h => absurd h nz1, fun _ => ⟨_, fun _ hh => hh, ⟨fun h => absurd h nz1, fun _ => ?_⟩⟩⟩⟩) (fun ha => ⟨_, fun _ hh => hh, ⟨fun _ => bad ⟨fun h => absurd h nz1, fun _ => hI (fun q => ha q.1)⟩, fun h => absurd rfl h⟩⟩)
    rw [nI_sub1 h1]
    refine p_in0 h1 (by omega) (fun hb => ⟨fun h => absurd h nz1, fun _ => good ⟨fun _ => ?_, fun h => absurd rfl h⟩⟩) (fun hb => ⟨fun _ => bad ⟨fun h => absurd h nz1, fun _ => hI (fun q => hb q.2)⟩, fun h => absurd rfl h⟩)
    obtain ⟨x, hx, rfl⟩ := ha
    obtain ⟨y, hy, rfl⟩ := hb
    have hN := hN x y rfl hx rfl hy
    rw [pk_sub (a := W - 1) (b := y) (by have hy : y < W := hy; omega)]
    exact ⟨_, fun _ hh => hh, ⟨fun h => absurd h (by decide), fun _ => ⟨fun h => absurd h (by decide), fun _ => ⟨fun h => absurd h (by decide), fun _ => ⟨_, fun _ hh => hh, ⟨fun h => absurd h (by decide), fun _ => ⟨fun h => absurd h (by decide), fun _ => ⟨fun h => absurd h (by decide), fun _ => fin (by omega) hx hN⟩⟩⟩⟩⟩⟩⟩⟩
end MT
