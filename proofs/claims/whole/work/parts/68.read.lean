/-! open, the reference: one row -/
theorem j1 {X : Int32 → Prop} {v : Nat} (hv : v < 512) (h : X (dfI v)) : ∃ J : Int32 → Prop, (∀ t : Int32, J t → X t) ∧ ((((nI v - nI v / (2 : Int32) * (2 : Int32)) = (0 : Int32) → (J (nI v / (2 : Int32)))) ∧ (¬ (nI v - nI v / (2 : Int32) * (2 : Int32)) = (0 : Int32) → (J ((-(nI v + (1 : Int32))) / (2 : Int32)))))) := by
  have e1 : nI v / (2 : Int32) = nI (v / 2) := pk_div (d := 2) (by omega) (by decide) (by decide)
  have e2 : nI v - nI v / (2 : Int32) * (2 : Int32) = nI (v % 2) := pk_rem (d := 2) (by omega) (by decide) (by decide)
  unfold dfI at h
  refine ⟨X, fun _ hh => hh, ⟨fun q => ?_, fun q => ?_⟩⟩
  · rw [e2] at q
    have q : v % 2 = 0 := nI_inj (by omega) (by omega) q
    rw [if_pos q] at h
    rw [e1]; exact h
  · have q : ¬ v % 2 = 0 := fun z => q (by rw [e2, z]; rfl)
    rw [if_neg q] at h
    rw [neg_half hv q]; exact h
theorem j2 {X : Int32 → Prop} {c y x : Nat} {f : Nat → Int32} {T : Nat → Nat} (hc0 : 0 < c) (hx : x < c) (h64 : y * c + c ≤ 64) (h : ∀ bv : Int32, (relB (y * c + x) f T → bv = nI (bfr T c (y * c + x))) → X bv) : ∃ J : Int32 → Prop, (∀ t : Int32, J t → X t) ∧ (((((nI y * nI c) + nI x) = (0 : Int32) → (J (0 : Int32))) ∧ (¬ ((nI y * nI c) + nI x) = (0 : Int32) → ((nI x = (0 : Int32) → (vp_in (((nI y * nI c) + nI x) - nI c) 64 ∧ (J (f (((nI y * nI c) + nI x) - nI c).toNatClampNeg)))) ∧ (¬ nI x = (0 : Int32) → (vp_in (((nI y * nI c) + nI x) - (1 : Int32)) 64 ∧ (J (f (((nI y * nI c) + nI x) - (1 : Int32)).toNatClampNeg)))))))) := by
  rw [pk_mul, nI_add]
  refine ⟨X, fun _ hh => hh, ⟨fun e => ?_, fun e => ⟨fun e2 => ?_, fun e2 => ?_⟩⟩⟩
  · have e : y * c + x = 0 := nI_inj (by omega) (by omega) e
    refine h _ (fun _ => ?_)
    unfold bfr
    rw [if_pos e]; rfl
  · have e : ¬ y * c + x = 0 := fun z => e (by rw [z]; rfl)
    have e2 : x = 0 := nI_inj (by omega) (by omega) e2
    subst e2
    have hy : 0 < y := by
      rcases Nat.eq_zero_or_pos y with q | q
      · rw [q, Nat.zero_mul] at e; omega
      · exact q
    have hp : c ≤ y * c := Nat.le_mul_of_pos_left c hy
    rw [pk_sub (by omega), nI_clamp (by omega)]
    refine ⟨vp_in_nI (by omega) (by decide), h _ (fun hf => ?_)⟩
    unfold bfr
    rw [if_neg e, if_pos (by rw [Nat.add_zero, Nat.mul_mod_left]), hf _ (by omega)]
  · have e : ¬ y * c + x = 0 := fun z => e (by rw [z]; rfl)
    have e2 : x ≠ 0 := fun z => e2 (by rw [z]; rfl)
    rw [nI_sub1 (by omega), nI_clamp (by omega)]
    refine ⟨vp_in_nI (by omega) (by decide), h _ (fun hf => ?_)⟩
    unfold bfr
    rw [if_neg e, if_neg (by rw [Nat.mul_comm, Nat.mul_add_mod, Nat.mod_eq_of_lt hx]; omega), hf _ (by omega)]
theorem p_isByteU {f : Nat → Int32} {k : Nat} {v : Int32} {post : Int32 → Prop} (h1 : inN v 256 → post 1) (h0 : ¬ inN v 256 → post 0) : wp_ZM_isByte (upd f k v k) post := by
  rw [pk_us]; exact p_isByte h1 h0
section MRd
variable {zt zw zh : Int32} {zp zs zb : Nat → Int32} {zz : Int32} {zl zo : Nat → Int32} {zc zr zu zv zq zi : Int32} {zk zm : Nat → Int32} {zd : Int32} {zg : Nat → Int32}
theorem m_bitAt {B q k : Nat} {b : Nat → Nat} (hB : B ≤ 256) (hf : relB B zb b) (ho : okB B b) (hk : q + k / 8 < B) (hk2 : k < 2 ^ 20) {post : Int32 → Prop} (h : post (nI (btA b (8 * q + k)))) : wp_ZM_bitAt zt zw zh zp zs zb zz zl zo zc zr zu zv (nI q) zi zk zm zd zg (nI k) post := by
  have e1 : nI k / (8 : Int32) = nI (k / 8) := pk_div (d := 8) (by omega) (by decide) (by decide)
  have e2 : nI k - nI k / (8 : Int32) * (8 : Int32) = nI (k % 8) := pk_rem (d := 8) (by omega) (by decide) (by decide)
  have e3 : (8 * q + k) / 8 = q + k / 8 := by omega
  have e4 : (8 * q + k) % 8 = k % 8 := by omega
  have hb := bit_at (p := 8 * q + k) hf ho hB (by omega)
  rw [e3, e4] at hb
  unfold wp_ZM_bitAt
  rw [e2, e1, nI_add, nI_clamp (by omega), hb]
  exact ⟨vp_in_nI (by omega) (by decide), h⟩
theorem m_readRow {B c y s E : Nat} {b t : Nat → Nat} (hB : B ≤ 256) (hE : E + 2 ≤ B) (hf : relB B zb b) (ho : okB B b) (hc0 : 0 < c) (hc : c ≤ 8) (hy : y * c + c ≤ 64) (hy8 : y < 8) (hg : relB (y * c) zo t) (ht : okB (y * c) t) (hs : s ≤ 256) {post : Int32 → (Nat → Int32) → Int32 → Prop}
    (hG : rowG b t c y s E → ∀ g', relB (y * c + c) g' (rowT b t c y s) → post 1 g' (nI (nxt b c s))) (hN : ¬ rowG b t c y s E → ∀ g' q, post 0 g' q) : wp_ZM_readRow zt zw zh zp zs zb zz zl zo (nI c) zr zu zv (nI s) zi zk zm zd zg (nI y) (nI E) post := by
  refine ⟨fun q => ?_, fun q => hN (fun z => q ((nI_ltI (by omega) (by omega)).mpr z.1)) _ _⟩
  have q := (nI_ltI (by omega) (by omega)).mp q
  have hin : vp_in (nI s) 256 := vp_in_nI (by omega) (by decide)
  have hbs : zb (nI s).toNatClampNeg = nI (b s) := by rw [nI_clamp (by omega)]; exact hf s (by omega)
  have hb256 := ho s (by omega)
  refine ⟨hin, fun q9 => ?_, fun q9 => ?_⟩
  · rw [hbs] at q9
    have q9 := (nI_ltI (a := 9) (by decide) (by omega)).mp q9
    exact hN (fun z => by have := z.2.1; omega) _ _
  rw [hbs] at q9
  have q9 := nlt_of (a := 9) (by decide) (by omega) q9
  have h72 : b s * c ≤ 9 * 8 := Nat.mul_le_mul q9 hc
  have eby : (((zb (nI s).toNatClampNeg) * nI c) + (7 : Int32)) / (8 : Int32) = nI ((b s * c + 7) / 8) := by
    rw [hbs, pk_mul, show (7 : Int32) = nI 7 from rfl, nI_add, show (8 : Int32) = nI 8 from rfl, pk_div (by omega) (by decide) (by decide)]
  have en : (nI s + (1 : Int32)) + ((((zb (nI s).toNatClampNeg) * nI c) + (7 : Int32)) / (8 : Int32)) = nI (nxt b c s) := by
    rw [eby, nI_1, nI_add]
    rfl
  have enx : nxt b c s = s + 1 + (b s * c + 7) / 8 := rfl
  refine ⟨fun qn => ?_, fun qn => ?_⟩
  rotate_left
  · rw [en] at qn
    have qn := nle_of (by omega) (by omega) qn
    exact hN (fun z => by have := z.2.2.1; omega) _ _
  rw [en] at qn
  have qn := (nI_leI (by omega) (by omega)).mp qn
  have hvl : ∀ x, rwV b s x < 512 := fun x => rwV_lt q9
  have bits : ∀ (x5 : Int32) (x : Nat) (fo : Nat → Int32) (K : Int32 → Int32 → Prop), x < c → (∀ e, K (nI (rwV b s x)) e) → ∀ d k, k + d = b s → lp_ZM_readRow_84 zt zw zh zp zs zb zz zl zo (nI c) zr zu zv (nI s) zi zk zm zd zg (nI y) (nI E) x5 (nI x) fo post K (d + 1) (nI (bvN b (8 * (s + 1) + b s * x) k)) (nI k) := by
    intro x5 x fo K hx hK d
    have hbx : b s * x + b s ≤ b s * c := by
      have := Nat.mul_le_mul_left (b s) (show x + 1 ≤ c by omega)
      rw [Nat.mul_add, Nat.mul_one] at this; exact this
    induction d with
    | zero =>
      intro k hk
      obtain rfl : k = b s := by omega
      refine ⟨fun _ => hK _, fun z => ?_⟩
      rw [hbs] at z
      exact absurd ((nI_leI (by omega) (by omega)).mpr (Nat.le_refl _)) z
    | succ d ih =>
      intro k hk
      refine ⟨fun z => ?_, fun _ => ?_⟩
      · rw [hbs] at z
        exact absurd ((nI_leI (by omega) (by omega)).mp z) (by omega)
      · have hb : ∀ {X : Int32 → Prop}, X (nI (btA b (8 * (s + 1) + b s * x + k))) → wp_ZM_bitAt zt zw zh zp zs zb zz zl fo (nI c) zr zu zv (nI s + (1 : Int32)) zi zk zm zd zg (((zb (nI s).toNatClampNeg) * nI x) + nI k) X := by
          intro X hX
          rw [hbs, pk_mul, nI_add, nI_1]
          refine m_bitAt hB hf ho (by omega) (by omega) ?_
          rw [← Nat.add_assoc]; exact hX
        refine hb ?_
        show lp_ZM_readRow_84 zt zw zh zp zs zb zz zl zo (nI c) zr zu zv (nI s) zi zk zm zd zg (nI y) (nI E) x5 (nI x) fo post K (d + 1) (nI (bvN b (8 * (s + 1) + b s * x) k) ||| (nI (btA b (8 * (s + 1) + b s * x + k)) <<< (nI k &&& 31))) (nI k + 1)
        rw [bit_or (btA b (8 * (s + 1) + b s * x + k)) rfl (btA_lt _ _) (by omega) (bvN_lt _ _ _), nI_1]
        have := ih (k + 1) (by omega)
        rw [bvN] at this
        exact this
  have bits0 : ∀ (x5 : Int32) (x : Nat) (fo : Nat → Int32) (K : Int32 → Int32 → Prop), x < c → (∀ e, K (nI (rwV b s x)) e) → ∃ n : Nat, lp_ZM_readRow_84 zt zw zh zp zs zb zz zl zo (nI c) zr zu zv (nI s) zi zk zm zd zg (nI y) (nI E) x5 (nI x) fo post K n (0 : Int32) (0 : Int32) := by
    intro x5 x fo K hx hK
    have k0 := bits x5 x fo K hx hK (b s) 0 (by omega)
    rw [bvN] at k0
    exact ⟨b s + 1, k0⟩
  have cols : ∀ (K : Int32 → Int32 → (Nat → Int32) → Prop), (∀ x5 e f', ((x5 = (1 : Int32) ∧ rdOk t c (y * c) (rwV b s) c ∧ relB (y * c + c) f' (rowT b t c y s)) ∨ (x5 = (0 : Int32) ∧ ¬ rdOk t c (y * c) (rwV b s) c)) → K x5 e f') → ∀ d x (x5 : Int32) f', x + d = c → ((x5 = (1 : Int32) ∧ rdOk t c (y * c) (rwV b s) x ∧ relB (y * c + x) f' (rdT t c (y * c) (rwV b s) x)) ∨ (x5 = (0 : Int32) ∧ ¬ rdOk t c (y * c) (rwV b s) c)) →
      lp_ZM_readRow_69 zt zw zh zp zs zb zz zl zo (nI c) zr zu zv (nI s) zi zk zm zd zg (nI y) (nI E) post K (d + 1) x5 (nI x) f' := by
    intro K hK d
    induction d with
    | zero =>
      intro x x5 f' hx hst
      obtain rfl : x = c := by omega
      exact ⟨fun _ => hK _ _ _ hst, fun z => absurd ((nI_leI (by omega) (by omega)).mpr (Nat.le_refl _)) z⟩
    | succ d ih =>
      intro x x5 f' hx hst
      have hat : vp_in ((nI y * nI c) + nI x) 64 := by rw [pk_mul, nI_add]; exact vp_in_nI (by omega) (by decide)
      have eat : ((nI y * nI c) + nI x).toNatClampNeg = y * c + x := by rw [pk_mul, nI_add]; exact nI_clamp (by omega)
      refine ⟨fun z => absurd ((nI_leI (by omega) (by omega)).mp z) (by omega), fun _ => bits0 _ x _ _ (by omega) (fun _ => j2 (T := rdT t c (y * c) (rwV b s) x) hc0 (by omega) hy (fun bv hbv => j1 (hvl x) ⟨hat, fun e5 => ?_, fun e5 => ⟨hat, p_isByteU (fun hb => ⟨fun z => absurd z nz1, fun _ => ?_⟩) (fun hb => ⟨fun _ => ?_, fun z => absurd rfl z⟩)⟩⟩))⟩
      · show lp_ZM_readRow_69 zt zw zh zp zs zb zz zl zo (nI c) zr zu zv (nI s) zi zk zm zd zg (nI y) (nI E) post K (d + 1) 0 (nI x + 1) _
        rw [nI_1]
        refine ih (x + 1) 0 _ (by omega) (Or.inr ⟨rfl, ?_⟩)
        rcases hst with ⟨h5, _⟩ | ⟨_, h5⟩
        · exact absurd (h5.symm.trans e5) nz1
        · exact h5
      · show lp_ZM_readRow_69 zt zw zh zp zs zb zz zl zo (nI c) zr zu zv (nI s) zi zk zm zd zg (nI y) (nI E) post K (d + 1) 1 (nI x + 1) (upd f' ((nI y * nI c) + nI x).toNatClampNeg (bv + dfI (rwV b s x)))
        rw [nI_1, eat]
        rcases hst with ⟨_, hok, hf'⟩ | ⟨h5, _⟩
        · have hokt := rdT_ok hc0 ht hok
          have hbf := bfr_lt (t := rdT t c (y * c) (rwV b s) x) (c := c) (k := y * c + x) (fun j hj => hokt j hj) hc0
          rw [hbv hf'] at hb ⊢
          have hsm : smOk (bfr (rdT t c (y * c) (rwV b s) x) c (y * c + x)) (rwV b s x) := Classical.byContradiction (fun z => smV_bad hbf (hvl x) z hb)
          rw [smV_ok hsm]
          refine ih (x + 1) 1 _ (by omega) (Or.inl ⟨rfl, fun x' hx' => ?_, relB_app hf'⟩)
          rcases Nat.lt_or_ge x' x with w | w
          · exact hok x' w
          · obtain rfl : x' = x := by omega
            exact hsm
        · exact absurd h5 e5
      · show lp_ZM_readRow_69 zt zw zh zp zs zb zz zl zo (nI c) zr zu zv (nI s) zi zk zm zd zg (nI y) (nI E) post K (d + 1) 0 (nI x + 1) _
        rw [nI_1]
        refine ih (x + 1) 0 _ (by omega) (Or.inr ⟨rfl, fun z => ?_⟩)
        rcases hst with ⟨_, hok, hf'⟩ | ⟨h5, _⟩
        · have hokt := rdT_ok hc0 ht hok
          have hbf := bfr_lt (t := rdT t c (y * c) (rwV b s) x) (c := c) (k := y * c + x) (fun j hj => hokt j hj) hc0
          have hsm := z x (by omega)
          rw [hbv hf', smV_ok hsm] at hb
          exact hb ⟨_, smV_lt hbf hsm, rfl⟩
        · exact absurd h5 e5
  refine ⟨c + 1, cols _ (fun x5 e f' hst => ?_) c 0 1 zo (by omega) (Or.inl ⟨rfl, fun x hx => absurd hx (by omega), hg⟩)⟩
  have e8 : (8 : Int32) * ((((zb (nI s).toNatClampNeg) * nI c) + (7 : Int32)) / (8 : Int32)) = nI (8 * ((b s * c + 7) / 8)) := by
    rw [eby, show (8 : Int32) = nI 8 from rfl, pk_mul]
  have rest : ∀ (K : Int32 → Int32 → Prop), (∀ z e, ((z = (1 : Int32) ∧ rdOk t c (y * c) (rwV b s) c ∧ relB (y * c + c) f' (rowT b t c y s) ∧ bvN b (8 * (s + 1) + b s * c) (8 * ((b s * c + 7) / 8) - b s * c) = 0) ∨ (z = (0 : Int32) ∧ ¬ rowG b t c y s E)) → K z e) → ∀ d k (z : Int32), b s * c + k + d = 8 * ((b s * c + 7) / 8) → ((z = (1 : Int32) ∧ rdOk t c (y * c) (rwV b s) c ∧ relB (y * c + c) f' (rowT b t c y s) ∧ bvN b (8 * (s + 1) + b s * c) k = 0) ∨ (z = (0 : Int32) ∧ ¬ rowG b t c y s E)) →
      lp_ZM_readRow_236 zt zw zh zp zs zb zz zl zo (nI c) zr zu zv (nI s) zi zk zm zd zg (nI y) (nI E) x5 e f' post K (d + 1) z (nI (b s * c + k)) := by
    intro K hK d
    induction d with
    | zero =>
      intro k z hk hst
      refine ⟨fun _ => hK _ _ ?_, fun w => ?_⟩
      · rw [show 8 * ((b s * c + 7) / 8) - b s * c = k by omega]; exact hst
      · rw [e8] at w
        exact absurd ((nI_leI (by omega) (by omega)).mpr (by omega)) w
    | succ d ih =>
      intro k z hk hst
      refine ⟨fun w => ?_, fun _ => ⟨fun z0 => ?_, fun z0 => ?_⟩⟩
      · rw [e8] at w
        exact absurd ((nI_leI (by omega) (by omega)).mp w) (by omega)
      · show lp_ZM_readRow_236 zt zw zh zp zs zb zz zl zo (nI c) zr zu zv (nI s) zi zk zm zd zg (nI y) (nI E) x5 e f' post K (d + 1) 0 (nI (b s * c + k) + 1)
        rw [nI_1, Nat.add_assoc]
        refine ih (k + 1) 0 (by omega) (Or.inr ⟨rfl, ?_⟩)
        rcases hst with ⟨h5, _⟩ | ⟨_, h5⟩
        · exact absurd (h5.symm.trans z0) nz1
        · exact h5
      · have hb : ∀ {X : Int32 → Prop}, X (nI (btA b (8 * (s + 1) + b s * c + k))) → wp_ZM_bitAt zt zw zh zp zs zb zz zl f' (nI c) zr zu zv (nI s + (1 : Int32)) zi zk zm zd zg (nI (b s * c + k)) X := by
          intro X hX
          rw [nI_1]
          refine m_bitAt hB hf ho (by omega) (by omega) ?_
          rw [← Nat.add_assoc]; exact hX
        have hbl := btA_lt b (8 * (s + 1) + b s * c + k)
        rcases hst with ⟨_, hok, hf', hz⟩ | ⟨h5, _⟩
        · refine hb ⟨fun w => ?_, fun w => ?_⟩
          · have w : btA b (8 * (s + 1) + b s * c + k) = 0 := nI_inj (by omega) (by omega) w
            show lp_ZM_readRow_236 zt zw zh zp zs zb zz zl zo (nI c) zr zu zv (nI s) zi zk zm zd zg (nI y) (nI E) x5 e f' post K (d + 1) 1 (nI (b s * c + k) + 1)
            rw [nI_1, Nat.add_assoc]
            refine ih (k + 1) 1 (by omega) (Or.inl ⟨rfl, hok, hf', ?_⟩)
            rw [bvN, hz, w, Nat.zero_mul]
          · show lp_ZM_readRow_236 zt zw zh zp zs zb zz zl zo (nI c) zr zu zv (nI s) zi zk zm zd zg (nI y) (nI E) x5 e f' post K (d + 1) 0 (nI (b s * c + k) + 1)
            rw [nI_1, Nat.add_assoc]
            refine ih (k + 1) 0 (by omega) (Or.inr ⟨rfl, fun g => w ?_⟩)
            rw [bvN_zero.mp g.2.2.2.2.1 k (by omega)]; rfl
        · exact absurd h5 z0
  have start : ∀ K, (∀ z e, ((z = (1 : Int32) ∧ rdOk t c (y * c) (rwV b s) c ∧ relB (y * c + c) f' (rowT b t c y s) ∧ bvN b (8 * (s + 1) + b s * c) (8 * ((b s * c + 7) / 8) - b s * c) = 0) ∨ (z = (0 : Int32) ∧ ¬ rowG b t c y s E)) → K z e) → ∃ n : Nat, lp_ZM_readRow_236 zt zw zh zp zs zb zz zl zo (nI c) zr zu zv (nI s) zi zk zm zd zg (nI y) (nI E) x5 e f' post K n x5 ((zb (nI s).toNatClampNeg) * nI c) := by
    intro K hK
    refine ⟨8 * ((b s * c + 7) / 8) - b s * c + 1, ?_⟩
    rw [hbs, pk_mul]
    refine rest K hK (8 * ((b s * c + 7) / 8) - b s * c) 0 x5 (by omega) ?_
    rcases hst with ⟨h5, hok, hf'⟩ | ⟨h5, hok⟩
    · exact Or.inl ⟨h5, hok, hf', by rw [bvN]⟩
    · exact Or.inr ⟨h5, fun g => hok g.2.2.2.1⟩
  refine start _ (fun z e' hz => ⟨fun z0 => ?_, fun z0 => ?_⟩)
  · rcases hz with ⟨h5, _⟩ | ⟨_, h5⟩
    · exact absurd (h5.symm.trans z0) nz1
    · exact hN h5 _ _
  · rcases hz with ⟨_, hok, hf', hzero⟩ | ⟨h5, _⟩
    · have hokt : okB (y * c + c) (rowT b t c y s) := rdT_ok hc0 ht hok
      refine m_rowBits (n := 64) (by omega) hc hc0 (by omega) hf' hokt ?_
      rw [show rwb (rowT b t c y s) c y = nb (mxR (rwV b s) c) from rdT_rwb hc0 hok]
      have hmx : mxR (rwV b s) c < 512 := mxR_lt (by decide) (fun i _ => hvl i)
      have hn9 := nb_9 hmx
      refine ⟨fun w => ?_, fun w => hN (fun g => w (by rw [hbs, g.2.2.2.2.2])) _ _⟩
      rw [hbs] at w
      have w := nI_inj (by omega) (by omega) w
      rw [en]
      refine hG ⟨q, q9, qn, hok, ?_, w⟩ f' hf'
      rw [show 8 * nxt b c s - (8 * (s + 1) + b s * c) = 8 * ((b s * c + 7) / 8) - b s * c by omega]
      exact hzero
    · exact absurd h5 z0
end MRd
