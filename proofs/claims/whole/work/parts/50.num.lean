/-! Pure rows: numbers. -/
def inN (a : Int32) (n : Nat) : Prop := ∃ j : Nat, j < n ∧ a = nI j
theorem inN_lt0 {a : Int32} {n : Nat} (hn : n < 2 ^ 31) (h : a < 0) : ¬ inN a n := by
  rintro ⟨j, hj, rfl⟩
  exact nI_pos (by omega) h
theorem inN_ge {a : Int32} {n : Nat} (hn : n < 2 ^ 31) (h : nI n ≤ a) : ¬ inN a n := by
  rintro ⟨j, hj, rfl⟩
  exact absurd ((nI_leI (by omega) (by omega)).mp h) (by omega)
theorem inN_of {a : Int32} {n : Nat} (hn : n < 2 ^ 31) (h0 : ¬ a < 0) (h1 : ¬ nI n ≤ a) : inN a n := by
  rcases pk_ix a hn with h | h | h
  · exact absurd h h0
  · exact absurd h h1
  · exact h
theorem nI_sub1 {n : Nat} (h : 0 < n) : nI n - 1 = nI (n - 1) := pk_sub (b := 1) h
theorem nI_lt255 {a : Int32} (h : (255 : Int32) < a) : nI 256 ≤ a := by
  have h1 : (255 : Int32) < a := h
  rw [Int32.lt_iff_toInt_lt] at h1
  rw [Int32.le_iff_toInt_le, nI_toInt (by omega)]
  have : (255 : Int32).toInt = 255 := rfl
  omega
theorem nI_nlt255 {a : Int32} (h : ¬ (255 : Int32) < a) : ¬ nI 256 ≤ a := by
  rw [Int32.lt_iff_toInt_lt] at h
  rw [Int32.le_iff_toInt_le, nI_toInt (by omega)]
  have : (255 : Int32).toInt = 255 := rfl
  omega
theorem p_isWithin {a : Int32} {n : Nat} (hn : n < 2 ^ 31) {post : Int32 → Prop} (h1 : inN a n → post 1) (h0 : ¬ inN a n → post 0) : wp_ZQ_isWithin a (nI n) post :=
  ⟨fun h => h0 (inN_lt0 hn h), fun h => ⟨fun h2 => h0 (inN_ge hn h2), fun h2 => h1 (inN_of hn h h2)⟩⟩
theorem p_isSample {a : Int32} {post : Int32 → Prop} (h1 : inN a 256 → post 1) (h0 : ¬ inN a 256 → post 0) : wp_ZQ_isSample a post :=
  ⟨fun h => h0 (inN_lt0 (by decide) h), fun h => ⟨fun h2 => h0 (inN_ge (by decide) (nI_lt255 h2)), fun h2 => h1 (inN_of (by decide) h (nI_nlt255 h2))⟩⟩
theorem p_in0 {a : Int32} {n : Nat} (h0n : 0 < n) (hn : n < 2 ^ 31) {post : Int32 → Prop} (h1 : inN a n → post 1) (h0 : ¬ inN a n → post 0) : wp_ZM_in a 0 (nI (n - 1)) post := by
  have key : nI (n - 1) < a ↔ nI n ≤ a := by
    rw [Int32.lt_iff_toInt_lt, Int32.le_iff_toInt_le, nI_toInt (by omega), nI_toInt (by omega)]
    omega
  exact ⟨fun h => h0 (inN_lt0 hn h), fun h => ⟨fun h2 => h0 (inN_ge hn (key.mp h2)), fun h2 => h1 (inN_of hn h (fun h3 => h2 (key.mpr h3)))⟩⟩
theorem nz1 : ¬ (1 : Int32) = 0 := by decide
theorem nz2 : ¬ (2 : Int32) = 0 := by decide
theorem nar1 : narrow .boolean (.int 1) = .int 1 := rfl
theorem nar0 : narrow .boolean (.int 0) = .int 0 := rfl
theorem p_isByte {a : Int32} {post : Int32 → Prop} (h1 : inN a 256 → post 1) (h0 : ¬ inN a 256 → post 0) : wp_ZM_isByte a post := by
  unfold wp_ZM_isByte
  exact p_in0 (n := 256) (by decide) (by decide) (fun h => ⟨rfl, h1 h⟩) (fun h => ⟨rfl, h0 h⟩)
theorem p_throwing {zt zw zh : Int32} {zp zs zb : Nat → Int32} {zz : Int32} {zl zo : Nat → Int32} {zc zr zu zv zq zi : Int32} {zk zm : Nat → Int32} {zd : Int32} {zg : Nat → Int32} {a b : Int32} {post : Int32 → Int32 → Prop}
    (h1 : ¬ a = 0 → post 1 1) (h2 : a = 0 → ¬ b = 0 → post 1 2) (h3 : a = 0 → b = 0 → post 0 0) : wp_ZM_throwing zt zw zh zp zs zb zz zl zo zc zr zu zv zq zi zk zm zd zg a b post := by
  refine ⟨fun v => ((v ≤ (0 : Int32) → post 0 v) ∧ (¬ v ≤ (0 : Int32) → post 1 v)), fun _ h => h, ?_⟩
  refine ⟨fun ha => ⟨fun hb => ⟨fun _ => h3 ha hb, fun h => absurd (by decide) h⟩, fun hb => ⟨fun h => absurd h (by decide), fun _ => h2 ha hb⟩⟩, fun ha => ⟨fun h => absurd h (by decide), fun _ => h1 ha⟩⟩
/-- a table of rows of s places each: f holds P -/
def relP (w h s : Nat) (f : Nat → Int32) (P : Nat → Nat → Nat) : Prop := ∀ y x, y < h → x < w → f (y * s + x) = nI (P y x)
def okP (w h : Nat) (P : Nat → Nat → Nat) : Prop := ∀ y x, y < h → x < w → P y x < 256
def set2 (P : Nat → Nat → Nat) (y x v : Nat) : Nat → Nat → Nat := fun y' x' => if y' = y ∧ x' = x then v else P y' x'
theorem idx_inj {s y x y' x' : Nat} (hx : x < s) (hx' : x' < s) (h : y' * s + x' = y * s + x) : y' = y ∧ x' = x := by
  have hs : 0 < s := by omega
  have h1 : (y' * s + x') / s = y' := by rw [Nat.add_comm, Nat.add_mul_div_right _ _ hs, Nat.div_eq_of_lt hx', Nat.zero_add]
  have h2 : (y * s + x) / s = y := by rw [Nat.add_comm, Nat.add_mul_div_right _ _ hs, Nat.div_eq_of_lt hx, Nat.zero_add]
  rw [h, h2] at h1
  subst h1
  exact ⟨rfl, by omega⟩
theorem relP_set {w h s : Nat} {f : Nat → Int32} {P : Nat → Nat → Nat} {y x v : Nat} (hs : w ≤ s) (hr : relP w h s f P) (hx : x < w) : relP w h s (upd f (y * s + x) (nI v)) (set2 P y x v) := by
  intro y' x' hy' hx'
  unfold set2
  by_cases hc : y' = y ∧ x' = x
  · rw [if_pos hc, hc.1, hc.2]; exact pk_us
  · rw [if_neg hc, pk_un (fun he => hc (idx_inj (by omega) (by omega) he))]
    exact hr y' x' hy' hx'
theorem okP_set {w h : Nat} {P : Nat → Nat → Nat} {y x v : Nat} (hr : okP w h P) (hv : v < 256) : okP w h (set2 P y x v) := by
  intro y' x' hy' hx'
  unfold set2
  split
  · exact hv
  · exact hr y' x' hy' hx'
theorem idx_lt {w h y x : Nat} (hy : y < h) (hx : x < w) : y * w + x < w * h := by
  have : (y + 1) * w ≤ h * w := Nat.mul_le_mul_right w hy
  rw [Nat.add_mul, Nat.one_mul] at this
  rw [Nat.mul_comm w h]; omega
theorem mul40 {w h : Nat} (hw : w ≤ 40) (hh : h ≤ 40) : w * h ≤ 1600 := Nat.mul_le_mul hw hh
