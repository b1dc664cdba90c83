/-! the seam: costs, the least of a few columns, the path -/
def dst (a b : Nat) : Nat := if a < b then (b - a) * (b - a) else (a - b) * (a - b)
theorem dst_comm (a b : Nat) : dst a b = dst b a := by
  unfold dst
  rcases Nat.lt_trichotomy a b with h | h | h
  · rw [if_pos h, if_neg (by omega)]
  · subst h; rfl
  · rw [if_neg (by omega), if_pos h]
theorem dst_le {a b : Nat} (ha : a < 256) (hb : b < 256) : dst a b ≤ 65025 := by
  unfold dst
  split
  · exact Nat.mul_le_mul (show b - a ≤ 255 by omega) (show b - a ≤ 255 by omega)
  · exact Nat.mul_le_mul (show a - b ≤ 255 by omega) (show a - b ≤ 255 by omega)
theorem dst_nI (a b : Nat) : (nI a - nI b) * (nI a - nI b) = nI (dst a b) := by
  unfold dst
  by_cases h : a < b
  · rw [if_pos h, ← Int32.neg_sub (a := nI b) (b := nI a), pk_sub (by omega), Int32.neg_mul_neg, pk_mul]
  · rw [if_neg h, pk_sub (by omega), pk_mul]
/-- the first of the least of g from a on, k more -/
def amn (g : Nat → Nat) (a : Nat) : Nat → Nat
  | 0 => a
  | k + 1 => if g (a + k + 1) < g (amn g a k) then a + k + 1 else amn g a k
theorem amn_spec (g : Nat → Nat) (a k : Nat) : a ≤ amn g a k ∧ amn g a k ≤ a + k ∧ (∀ j, a ≤ j → j ≤ a + k → g (amn g a k) ≤ g j) ∧ (∀ j, a ≤ j → j < amn g a k → g (amn g a k) < g j) := by
  induction k with
  | zero =>
    refine ⟨Nat.le_refl _, Nat.le_refl _, fun j h1 h2 => ?_, fun j h1 h2 => ?_⟩
    · obtain rfl : j = a := by omega
      exact Nat.le_refl _
    · exact absurd h2 (by show ¬ j < a; omega)
  | succ k ih =>
    obtain ⟨i1, i2, i3, i4⟩ := ih
    unfold amn
    split
    · rename_i h
      refine ⟨by omega, by omega, fun j h1 h2 => ?_, fun j h1 h2 => ?_⟩
      · rcases Nat.lt_or_ge j (a + k + 1) with w | w
        · have := i3 j h1 (by omega); omega
        · obtain rfl : j = a + k + 1 := by omega
          exact Nat.le_refl _
      · have := i3 j h1 (by omega); omega
    · rename_i h
      refine ⟨i1, by omega, fun j h1 h2 => ?_, i4⟩
      rcases Nat.lt_or_ge j (a + k + 1) with w | w
      · exact i3 j h1 (by omega)
      · obtain rfl : j = a + k + 1 := by omega
        omega
/-- the first of the least near column x, of n columns -/
def nea (g : Nat → Nat) (n x : Nat) : Nat := amn g (x - 1) (min (n - 1) (x + 1) - (x - 1))
theorem nea_spec {g : Nat → Nat} {n x : Nat} (hx : x < n) : nea g n x < n ∧ x - 1 ≤ nea g n x ∧ nea g n x ≤ x + 1 ∧ (∀ j, x - 1 ≤ j → j ≤ x + 1 → j < n → g (nea g n x) ≤ g j) ∧ (∀ j, x - 1 ≤ j → j < nea g n x → g (nea g n x) < g j) := by
  have h := amn_spec g (x - 1) (min (n - 1) (x + 1) - (x - 1))
  obtain ⟨h1, h2, h3, h4⟩ := h
  unfold nea
  exact ⟨by omega, h1, by omega, fun j a b c => h3 j a (by omega), h4⟩
/-- the costs of seams down to a place -/
def csC (D : Nat → Nat → Nat) (n : Nat) : Nat → Nat → Nat
  | 0 => fun x => D 0 x
  | y + 1 => fun x => csC D n y (nea (csC D n y) n x) + D (y + 1) x
theorem csC_le {D : Nat → Nat → Nat} {n H y x : Nat} (hD : ∀ y x, y < H → x < n → D y x ≤ 65025) (hy : y < H) (hx : x < n) : csC D n y x ≤ 65025 * (y + 1) := by
  induction y generalizing x with
  | zero => exact Nat.le_trans (hD 0 x hy hx) (by omega)
  | succ y ih =>
    have h1 := ih (by omega) (nea_spec (g := csC D n y) hx).1
    have h2 := hD (y + 1) x hy hx
    show csC D n y (nea (csC D n y) n x) + D (y + 1) x ≤ _
    omega
/-- the path, counted from its end -/
def pthD (C : Nat → Nat → Nat) (n H : Nat) : Nat → Nat
  | 0 => amn (C (H - 1)) 0 (n - 1)
  | k + 1 => nea (C (H - 1 - (k + 1))) n (pthD C n H k)
theorem pthD_lt {C : Nat → Nat → Nat} {n H k : Nat} (hn : 1 ≤ n) : pthD C n H k < n := by
  induction k with
  | zero => have := (amn_spec (C (H - 1)) 0 (n - 1)).2.1; show amn (C (H - 1)) 0 (n - 1) < n; omega
  | succ k ih => exact (nea_spec ih).1
def pth (C : Nat → Nat → Nat) (n H r : Nat) : Nat := pthD C n H (H - 1 - r)
theorem pth_up {C : Nat → Nat → Nat} {n H r : Nat} (h : r + 1 < H) : pth C n H r = nea (C r) n (pth C n H (r + 1)) := by
  unfold pth
  rw [show H - 1 - r = H - 1 - (r + 1) + 1 by omega]
  show nea (C (H - 1 - (H - 1 - (r + 1) + 1))) n _ = _
  rw [show H - 1 - (H - 1 - (r + 1) + 1) = r by omega]
theorem pth_last {C : Nat → Nat → Nat} {n H : Nat} : pth C n H (H - 1) = amn (C (H - 1)) 0 (n - 1) := by
  unfold pth
  rw [show H - 1 - (H - 1) = 0 by omega]; rfl
/-- the costs' table, filled down to column x of row y -/
def prtC (C : Nat → Nat → Nat) (n y x : Nat) (f : Nat → Int32) : Prop := ∀ y' x', x' < n → (y' < y ∨ (y' = y ∧ x' < x)) → f (y' * 8 + x') = nI (C y' x')
theorem prtC_set {C : Nat → Nat → Nat} {n y x : Nat} {f : Nat → Int32} {v : Int32} (hn : n ≤ 8) (hx : x < n) (h : prtC C n y x f) (hv : v = nI (C y x)) : prtC C n y (x + 1) (upd f (y * 8 + x) v) := by
  intro y' x' hx' hc
  by_cases he : y' = y ∧ x' = x
  · rw [he.1, he.2, hv]; exact pk_us
  · rw [pk_un (fun q => he (idx_inj (by omega) (by omega) q))]
    exact h y' x' hx' (by omega)
theorem prtC_row {C : Nat → Nat → Nat} {n y : Nat} {f : Nat → Int32} (h : prtC C n y n f) : prtC C n (y + 1) 0 f := fun y' x' hx' hc => h y' x' hx' (by omega)
section QSm
variable {sn : Nat} {sf : Nat → Int32} {sd pw ph : Int32} {pn : Nat} {pf : Nat → Int32} {gw gh : Int32} {gn : Nat} {gf : Nat → Int32}
theorem q_cheapest {H y a k : Nat} {f : Nat → Int32} {g : Nat → Nat} (hH : H ≤ 40) (hy : y < H) (hak : a + k < 8) (hg : ∀ j, a ≤ j → j ≤ a + k → f (y * 8 + j) = nI (g j)) (hb : ∀ j, a ≤ j → j ≤ a + k → g j < 2 ^ 30) {post : Int32 → Prop} (h : post (nI (amn g a k))) : wp_ZS_cheapest (8 * H) f sn sf sd pw ph pn pf gw gh gn gf (nI y) (nI a) (nI (a + k)) post := by
  have ei : ∀ j : Nat, nI y * (8 : Int32) + nI j = nI (y * 8 + j) := fun j => by rw [show (8 : Int32) = nI 8 from rfl, pk_mul, nI_add]
  have key : ∀ d i, i + d = k → lp_ZS_cheapest_8 (8 * H) f sn sf sd pw ph pn pf gw gh gn gf (nI y) (nI a) (nI (a + k)) post (fun b _ => post b) (d + 1) (nI (amn g a i)) (nI (a + i + 1)) := by
    intro d
    induction d with
    | zero =>
      intro i hi
      obtain rfl : i = k := by omega
      exact ⟨fun _ => h, fun z => absurd ((nI_ltI (by omega) (by omega)).mpr (by omega)) z⟩
    | succ d ih =>
      intro i hi
      obtain ⟨s1, s2, _, _⟩ := amn_spec g a i
      have b1 := hb (amn g a i) s1 (by omega)
      have b2 := hb (a + i + 1) (by omega) (by omega)
      have ha := ih (i + 1) (by omega)
      refine ⟨fun z => absurd ((nI_ltI (by omega) (by omega)).mp z) (by omega), fun _ => ⟨?_, ?_, ⟨fun z => ?_, fun z => ?_⟩⟩⟩
      · rw [ei]; exact vp_in_nI (by omega) (by omega)
      · rw [ei]; exact vp_in_nI (by omega) (by omega)
      · rw [ei, ei, nI_clamp (by omega), nI_clamp (by omega), hg _ s1 (by omega), hg (a + i + 1) (by omega) (by omega)] at z
        have z := (nI_leI (by omega) (by omega)).mp z
        show lp_ZS_cheapest_8 (8 * H) f sn sf sd pw ph pn pf gw gh gn gf (nI y) (nI a) (nI (a + k)) post (fun b _ => post b) (d + 1) (nI (amn g a i)) (nI (a + i + 1) + 1)
        rw [nI_1]
        rw [show amn g a (i + 1) = amn g a i from if_neg (by omega)] at ha
        exact ha
      · rw [ei, ei, nI_clamp (by omega), nI_clamp (by omega), hg _ s1 (by omega), hg (a + i + 1) (by omega) (by omega)] at z
        have z := nle_of (by omega) (by omega) z
        show lp_ZS_cheapest_8 (8 * H) f sn sf sd pw ph pn pf gw gh gn gf (nI y) (nI a) (nI (a + k)) post (fun b _ => post b) (d + 1) (nI (a + i + 1)) (nI (a + i + 1) + 1)
        rw [nI_1]
        rw [show amn g a (i + 1) = a + i + 1 from if_pos z] at ha
        exact ha
  have k0 := key k 0 (by omega)
  refine ⟨k + 1, ?_⟩
  rw [nI_1]
  exact k0
theorem q_near {H y n x : Nat} {f : Nat → Int32} {g : Nat → Nat} (hH : H ≤ 40) (hy : y < H) (hn : n ≤ 8) (hx : x < n) (hg : ∀ j, j < n → f (y * 8 + j) = nI (g j)) (hb : ∀ j, j < n → g j < 2 ^ 30) {post : Int32 → Prop} (h : post (nI (nea g n x))) : wp_ZS_cheapestNear (8 * H) f sn sf sd pw ph pn pf gw gh gn gf (nI y) (nI x) (nI n) post := by
  have e1 : (if (0 : Int32) < (nI x - (1 : Int32)) then (nI x - (1 : Int32)) else (0 : Int32)) = nI (x - 1) := by
    rcases Nat.eq_zero_or_pos x with q | q
    · subst q; rfl
    · rw [nI_sub1 q]
      rcases Nat.eq_zero_or_pos (x - 1) with w | w
      · rw [w]; rfl
      · exact if_pos (show (0 : Int32) < nI (x - 1) from (nI_ltI (a := 0) (by decide) (by omega)).mpr w)
  have e2 : (if (nI x + (1 : Int32)) < (nI n - (1 : Int32)) then (nI x + (1 : Int32)) else (nI n - (1 : Int32))) = nI ((x - 1) + (min (n - 1) (x + 1) - (x - 1))) := by
    rw [nI_1, nI_sub1 (by omega), show x - 1 + (min (n - 1) (x + 1) - (x - 1)) = min (n - 1) (x + 1) by omega]
    by_cases w : x + 1 < n - 1
    · rw [if_pos ((nI_ltI (by omega) (by omega)).mpr w), Nat.min_eq_right (by omega)]
    · rw [if_neg (fun z => w ((nI_ltI (by omega) (by omega)).mp z)), Nat.min_eq_left (by omega)]
  unfold wp_ZS_cheapestNear
  rw [e1, e2]
  exact q_cheapest hH hy (by omega) (fun j _ _ => hg j (by omega)) (fun j _ _ => hb j (by omega)) h
end QSm
section QSn
variable {sn : Nat} {sf : Nat → Int32} {sd : Int32} {pf gf : Nat → Int32}
/-- what a place of the overlap costs -/
def cst (P S : Nat → Nat → Nat) (W n : Nat) : Nat → Nat → Nat := fun y x => dst (S y x) (P y (W - n + x))
theorem cst_le {P S : Nat → Nat → Nat} {W H n y x : Nat} (hP : okP W H P) (hS : okP 8 H S) (hn8 : n ≤ 8) (hnW : n ≤ W) (hy : y < H) (hx : x < n) : cst P S W n y x ≤ 65025 := dst_le (hS y x hy (by omega)) (hP y _ hy (by omega))
theorem q_addUp {W H n y : Nat} {f : Nat → Int32} {P S : Nat → Nat → Nat} (hP : relP W H W pf P) (oP : okP W H P) (hS : relP 8 H 8 gf S) (oS : okP 8 H S) (hW : W ≤ 40) (hH : H ≤ 40) (hn8 : n ≤ 8) (hnW : n ≤ W) (hy : y < H) (hf : prtC (csC (cst P S W n) n) n y 0 f) {post : (Nat → Int32) → Prop} (h : ∀ f', prtC (csC (cst P S W n) n) n (y + 1) 0 f' → post f') :
    wp_ZS_addUpRow (8 * H) f sn sf sd (nI W) (nI H) (W * H) pf (nI 8) (nI H) (8 * H) gf (nI y) (nI n) post := by
  have ei : ∀ i j : Nat, nI i * (8 : Int32) + nI j = nI (i * 8 + j) := fun i j => by rw [show (8 : Int32) = nI 8 from rfl, pk_mul, nI_add]
  have hD : ∀ y x, y < H → x < n → cst P S W n y x ≤ 65025 := fun y x a b => cst_le oP oS hn8 hnW a b
  have key : ∀ d x f', x + d = n → prtC (csC (cst P S W n) n) n y x f' → lp_ZS_addUpRow_2 (8 * H) f sn sf sd (nI W) (nI H) (W * H) pf (nI 8) (nI H) (8 * H) gf (nI y) (nI n) post (fun _ a => post a) (d + 1) (nI x) f' := by
    intro d
    induction d with
    | zero =>
      intro x f' hx hf'
      obtain rfl : x = n := by omega
      exact ⟨fun _ => h _ (prtC_row hf'), fun z => absurd ((nI_leI (by omega) (by omega)).mpr (Nat.le_refl _)) z⟩
    | succ d ih =>
      intro x f' hx hf'
      have hP' : ∀ {X : Int32 → Prop}, X (nI (P y (W - n + x))) → wp_ZP_sampleAt (nI W) (nI H) (W * H) pf ((nI W - nI n) + nI x) (nI y) X := by
        intro X hX
        rw [pk_sub hnW, nI_add]
        refine q_sampleAt hW hH (by omega) hy ?_
        rw [hP y (W - n + x) hy (by omega)]; exact hX
      refine ⟨fun z => absurd ((nI_leI (by omega) (by omega)).mp z) (by omega), fun _ => q_sampleAt (by decide) hH (by omega) hy (hP' ?_)⟩
      rw [hS y x hy (by omega)]
      have fin : ∀ v : Nat, v + cst P S W n y x = csC (cst P S W n) n y x → vp_in ((nI y * (8 : Int32)) + nI x) (8 * H) ∧ (lp_ZS_addUpRow_2 (8 * H) f sn sf sd (nI W) (nI H) (W * H) pf (nI 8) (nI H) (8 * H) gf (nI y) (nI n) post (fun _ a => post a) (d + 1) (nI x + (1 : Int32)) (upd f' ((nI y * (8 : Int32)) + nI x).toNatClampNeg (nI v + ((nI (S y x) - nI (P y (W - n + x))) * (nI (S y x) - nI (P y (W - n + x))))))) := by
        intro v hv
        rw [ei, nI_clamp (by omega), nI_1, dst_nI, nI_add]
        refine ⟨vp_in_nI (by omega) (by omega), ih (x + 1) _ (by omega) (prtC_set hn8 (by omega) hf' ?_)⟩
        rw [← hv]; rfl
      refine ⟨_, fun _ hh => hh, ⟨fun z => ?_, fun z => ?_⟩⟩
      · have z : y = 0 := by have := (nI_leI (b := 0) (by omega) (by decide)).mp z; omega
        subst z
        exact fin 0 (by rw [Nat.zero_add]; rfl)
      · have z : 0 < y := nle_of (b := 0) (by omega) (by decide) z
        obtain ⟨y', rfl⟩ : ∃ y', y = y' + 1 := ⟨y - 1, by omega⟩
        have hnr : ∀ {X : Int32 → Prop}, X (nI (nea (csC (cst P S W n) n y') n x)) → wp_ZS_cheapestNear (8 * H) f' sn sf sd (nI W) (nI H) (W * H) pf (nI 8) (nI H) (8 * H) gf (nI (y' + 1) - (1 : Int32)) (nI x) (nI n) X := by
          intro X hX
          rw [nI_pred]
          refine q_near hH (by omega) hn8 (by omega) (fun j hj => hf' y' j hj (by omega)) (fun j hj => ?_) hX
          have := csC_le hD (show y' < H by omega) hj
          omega
        refine hnr ?_
        have hnl := (nea_spec (g := csC (cst P S W n) n y') (show x < n by omega)).1
        have er : ((nI (y' + 1) - (1 : Int32)) * (8 : Int32)) + nI (nea (csC (cst P S W n) n y') n x) = nI (y' * 8 + nea (csC (cst P S W n) n y') n x) := by rw [nI_pred, ei]
        rw [er, nI_clamp (by omega), hf' y' _ hnl (by omega)]
        exact ⟨vp_in_nI (by omega) (by omega), fin _ rfl⟩
  exact ⟨n + 1, key n 0 f (by omega) hf⟩
theorem q_findLeast {W H n : Nat} {kf : Nat → Int32} {P S : Nat → Nat → Nat} (hP : relP W H W pf P) (oP : okP W H P) (hS : relP 8 H 8 gf S) (oS : okP 8 H S) (hW : W ≤ 40) (h2 : 1 ≤ H) (hH : H ≤ 40) (hn1 : 1 ≤ n) (hn8 : n ≤ 8) (hnW : n ≤ W) {post : Int32 → (Nat → Int32) → (Nat → Int32) → Int32 → Prop}
    (h : ∀ k' s', (∀ r, r < H → s' r = nI (pth (csC (cst P S W n) n) n H r)) → post (nI (csC (cst P S W n) n (H - 1) (pth (csC (cst P S W n) n) n H (H - 1)))) k' s' 1) : wp_ZS_findLeast (8 * H) kf H sf sd (nI W) (nI H) (W * H) pf (nI 8) (nI H) (8 * H) gf (nI n) post := by
  have hD : ∀ y x, y < H → x < n → cst P S W n y x ≤ 65025 := fun y x a b => cst_le oP oS hn8 hnW a b
  have hC : ∀ y x, y < H → x < n → csC (cst P S W n) n y x < 2 ^ 30 := fun y x a b => by have := csC_le hD a b; omega
  have rows : ∀ (K : Int32 → (Nat → Int32) → Prop), (∀ e f', prtC (csC (cst P S W n) n) n H 0 f' → K e f') → ∀ d y f', y + d = H → prtC (csC (cst P S W n) n) n y 0 f' → lp_ZS_findLeast_2 (8 * H) kf H sf sd (nI W) (nI H) (W * H) pf (nI 8) (nI H) (8 * H) gf (nI n) post K (d + 1) (nI y) f' := by
    intro K hK d
    induction d with
    | zero =>
      intro y f' hy hf'
      obtain rfl : y = H := by omega
      exact ⟨fun _ => hK _ _ hf', fun z => absurd ((nI_leI (by omega) (by omega)).mpr (Nat.le_refl _)) z⟩
    | succ d ih =>
      intro y f' hy hf'
      refine ⟨fun z => absurd ((nI_leI (by omega) (by omega)).mp z) (by omega), fun _ => q_addUp hP oP hS oS hW hH hn8 hnW (by omega) hf' (fun f'' hf'' => ?_)⟩
      show lp_ZS_findLeast_2 (8 * H) kf H sf sd (nI W) (nI H) (W * H) pf (nI 8) (nI H) (8 * H) gf (nI n) post K (d + 1) (nI y + 1) f''
      rw [nI_1]
      exact ih (y + 1) f'' (by omega) hf''
  refine ⟨H + 1, rows _ (fun e k' hk' => ?_) H 0 kf (by omega) (fun y' x' _ hc => absurd hc (by omega))⟩
  generalize csC (cst P S W n) n = C at *
  have eH : nI H - (1 : Int32) = nI (H - 1) := nI_sub1 h2
  have hch : ∀ {X : Int32 → Prop}, X (nI (amn (C (H - 1)) 0 (n - 1))) → wp_ZS_cheapest (8 * H) k' H sf sd (nI W) (nI H) (W * H) pf (nI 8) (nI H) (8 * H) gf (nI H - (1 : Int32)) (0 : Int32) (nI n - (1 : Int32)) X := by
    intro X hX
    rw [eH, nI_sub1 hn1, show nI (n - 1) = nI (0 + (n - 1)) by rw [Nat.zero_add]]
    exact q_cheapest (a := 0) hH (by omega) (by omega) (fun j _ hj => hk' _ _ (by omega) (by omega)) (fun j _ hj => hC _ _ (by omega) (by omega)) hX
  refine hch ⟨by rw [eH]; exact vp_in_nI (by omega) (by omega), ?_⟩
  have up : ∀ (e2 r3 : Int32) (K : Int32 → (Nat → Int32) → Prop), (∀ e s', (∀ r, r < H → s' r = nI (pth C n H r)) → K e s') → ∀ k s', k < H → (∀ r, k ≤ r → r < H → s' r = nI (pth C n H r)) → lp_ZS_findLeast_54 (8 * H) kf H sf sd (nI W) (nI H) (W * H) pf (nI 8) (nI H) (8 * H) gf (nI n) e2 k' r3 post K (k + 1) (nI k + (-1 : Int32)) s' := by
    intro e2 r3 K hK k
    induction k with
    | zero =>
      intro s' _ hs'
      exact ⟨fun _ => hK _ _ (fun r hr => hs' r (by omega) hr), fun z => absurd (by decide +kernel) z⟩
    | succ k ih =>
      intro s' hk hs'
      have hpl : pth C n H (k + 1) < n := pthD_lt hn1
      rw [pk_m1]
      have e1 : nI k + (1 : Int32) = nI (k + 1) := nI_1 k
      have hnr : ∀ {X : Int32 → Prop}, X (nI (pth C n H k)) → wp_ZS_cheapestNear (8 * H) k' H s' sd (nI W) (nI H) (W * H) pf (nI 8) (nI H) (8 * H) gf (nI k) (s' (nI k + (1 : Int32)).toNatClampNeg) (nI n) X := by
        intro X hX
        rw [e1, nI_clamp (by omega), hs' (k + 1) (by omega) hk]
        refine q_near hH (by omega) hn8 hpl (fun j hj => hk' k j hj (by omega)) (fun j hj => hC k j (by omega) hj) ?_
        rw [← pth_up hk]; exact hX
      refine ⟨fun z => absurd z (nI_pos (by omega)), fun _ => ⟨by rw [e1]; exact vp_in_nI hk (by omega), hnr ⟨vp_in_nI (by omega) (by omega), ?_⟩⟩⟩
      show lp_ZS_findLeast_54 (8 * H) kf H sf sd (nI W) (nI H) (W * H) pf (nI 8) (nI H) (8 * H) gf (nI n) e2 k' r3 post K (k + 1) (nI k + (-1 : Int32)) (upd s' (nI k).toNatClampNeg (nI (pth C n H k)))
      rw [nI_clamp (by omega)]
      refine ih _ (by omega) (fun r hr1 hr2 => ?_)
      by_cases hc : r = k
      · rw [hc]; exact pk_us
      · rw [pk_un hc]; exact hs' r (by omega) hr2
  have es : (nI H - (1 : Int32)) - (1 : Int32) = nI (H - 1) + (-1 : Int32) := by rw [eH, Int32.sub_eq_add_neg]
  refine ⟨H - 1 + 1, ?_⟩
  have k0 := fun e2 r3 K hK => up e2 r3 K hK (H - 1) (upd sf (H - 1) (nI (amn (C (H - 1)) 0 (n - 1)))) (by omega) (fun r h1 h2 => by
    obtain rfl : r = H - 1 := by omega
    rw [pk_us, pth_last])
  rw [es, eH, nI_clamp (by omega)]
  refine k0 _ _ _ (fun _ s' hs' => ?_)
  have hpl : pth C n H (H - 1) < n := pthD_lt hn1
  have ep : (nI (H - 1) * (8 : Int32)) + s' (H - 1) = nI ((H - 1) * 8 + pth C n H (H - 1)) := by rw [hs' (H - 1) (by omega), show (8 : Int32) = nI 8 from rfl, pk_mul, nI_add]
  rw [ep, nI_clamp (by omega), hk' (H - 1) _ hpl (by omega)]
  exact ⟨vp_in_nI (by omega) (by omega), vp_in_nI (by omega) (by omega), h k' s' hs'⟩
end QSn
