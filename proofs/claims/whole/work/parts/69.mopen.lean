/-! open, the reference -/
section MO
variable {zt zw zh : Int32} {zp zs zb : Nat → Int32} {zz : Int32} {zl zo : Nat → Int32} {zc zr zu zv zq zi : Int32} {zk zm : Nat → Int32} {zd : Int32} {zg : Nat → Int32}
theorem m_open {B : Nat} {b : Nat → Nat} (hB : B ≤ 256) (hf : relB B zb b) (ho : okB B b) {post : Int32 → Int32 → (Nat → Int32) → (Nat → Int32) → Int32 → Int32 → Int32 → Int32 → Int32 → Prop}
    (hS : ¬ sumOk b B → post 0 0 zl zo zc zr zu zv zq) (hN : sumOk b B → ¬ opn b B → ∀ o c r q, post (-1) 0 zl o c r zu zv q) (hY : sumOk b B → opn b B → ∀ l o c r q, relB (b 0 * b 1) l (opT b (b 0) (b 1)) → post (nI (b 0 * b 1)) 0 l o c r (nI (b 0)) (nI (b 1)) q) : wp_ZM_open zt zw zh zp zs zb (nI B) zl zo zc zr zu zv zq zi zk zm zd zg post := by
  refine ⟨fun q => hS (fun z => ?_), fun q => ?_⟩
  · have := (nI_ltI (b := 2) (by omega) (by decide)).mp q; have := z.1; omega
  have q := nlt_of (b := 2) (by omega) (by decide) q
  have e : nI B - (2 : Int32) = nI (B - 2) := pk_sub (b := 2) q
  have ee : nI B - (1 : Int32) = nI (B - 1) := pk_sub (b := 1) (by omega)
  have hsm := smB_lt b (B - 2)
  have o1 := ho (B - 2) (by omega)
  have o2 := ho (B - 1) (by omega)
  have hsum : ∀ {X : Int32 → Prop}, X (nI (smB b (B - 2))) → wp_ZM_sum (0 : Int32) zw zh zp zs zb (nI B) zl zo zc zr zu zv zq zi zk zm zd zg (nI B - (2 : Int32)) X := by
    intro X hX
    rw [e]
    exact m_sum (by omega) hB hf ho hX
  refine hsum ⟨by rw [e]; exact vp_in_nI (by omega) (by decide), by rw [ee]; exact vp_in_nI (by omega) (by decide), ?_⟩
  have es : (zb (nI B - (2 : Int32)).toNatClampNeg) ||| ((zb (nI B - (1 : Int32)).toNatClampNeg) <<< ((8 : Int32) &&& 31)) = nI (b (B - 2) + b (B - 1) * 256) := by
    rw [e, ee, nI_clamp (by omega), nI_clamp (by omega), hf (B - 2) (by omega), hf (B - 1) (by omega)]
    rw [show (nI (b (B - 1)) <<< ((8 : Int32) &&& 31)) = nI (b (B - 1) * 2 ^ 8) from shl_nI (k := 8) (by decide) (by omega), nI_or (by omega) (by omega), or_add (by omega)]
  refine ⟨fun z => ?_, fun z => hS (fun w => z (by rw [es, w.2]))⟩
  rw [es] at z
  have hso : sumOk b B := ⟨q, nI_inj (by omega) (by omega) z⟩
  have hN := hN hso
  have hY := hY hso
  refine ⟨fun q4 => hN (fun w => ?_) _ _ _ _, fun q4 => ?_⟩
  · rw [e] at q4
    have := (nI_ltI (b := 2) (by omega) (by decide)).mp q4; have := w.1; omega
  rw [e] at q4
  have q4 := nlt_of (b := 2) (by omega) (by decide) q4
  have f0 : zb (0 : Int32).toNatClampNeg = nI (b 0) := hf 0 (by omega)
  have f1 : zb (1 : Int32).toNatClampNeg = nI (b 1) := hf 1 (by omega)
  have o0 := ho 0 (by omega)
  have o1 := ho 1 (by omega)
  have i0 : vp_in (0 : Int32) 256 := vp_in_nI (n := 0) (by decide) (by decide)
  have i1 : vp_in (1 : Int32) 256 := vp_in_nI (n := 1) (by decide) (by decide)
  have side : ∀ {v : Nat} {X : Int32 → Prop}, v < 256 → (1 ≤ v → v ≤ 8 → X 1) → (¬ (1 ≤ v ∧ v ≤ 8) → X 0) → wp_ZM_in (nI v) (1 : Int32) (8 : Int32) X := by
    intro v X hv h1 h0
    refine p_in1 (n := 8) (by decide) (fun hw => ?_) (fun hw => h0 (fun z => hw ⟨v, z.1, z.2, rfl⟩))
    obtain ⟨w, w1, w2, ew⟩ := hw
    have ew := nI_inj (by omega) (by omega) ew
    exact h1 (by omega) (by omega)
  refine ⟨i0, ?_⟩
  have s0 : ∀ {X : Int32 → Prop}, (1 ≤ b 0 → b 0 ≤ 8 → X 1) → (¬ (1 ≤ b 0 ∧ b 0 ≤ 8) → X 0) → wp_ZM_in (zb (0 : Int32).toNatClampNeg) (1 : Int32) (8 : Int32) X := by
    intro X h1 h0
    rw [f0]; exact side o0 h1 h0
  have s1 : ∀ {X : Int32 → Prop}, (1 ≤ b 1 → b 1 ≤ 8 → X 1) → (¬ (1 ≤ b 1 ∧ b 1 ≤ 8) → X 0) → wp_ZM_in (zb (1 : Int32).toNatClampNeg) (1 : Int32) (8 : Int32) X := by
    intro X h1 h0
    rw [f1]; exact side o1 h1 h0
  refine s0 (fun c1 c2 => ⟨fun z => absurd z nz1, fun _ => ⟨i1, s1 (fun r1 r2 => ⟨fun z => absurd z nz1, fun _ => ⟨i0, i1, ?_⟩⟩) (fun z => ⟨fun _ => hN (fun w => z ⟨w.2.2.2.1, w.2.2.2.2.1⟩) _ _ _ _, fun z => absurd rfl z⟩)⟩⟩) (fun z => ⟨fun _ => hN (fun w => z ⟨w.2.1, w.2.2.1⟩) _ _ _ _, fun z => absurd rfl z⟩)
  have h64 : b 1 * b 0 ≤ 64 := mul8 r2 c2
  have key : ∀ (t2 t8 t11 : Int32) (K : Int32 → Int32 → Int32 → (Nat → Int32) → Prop), (∀ x2 e v13 f', ((x2 = (1 : Int32) ∧ v13 = nI (opS b (b 0) (b 1)) ∧ opG b (b 0) (B - 2) (b 1) ∧ relB (b 1 * b 0) f' (opT b (b 0) (b 1))) ∨ (x2 = (0 : Int32) ∧ ¬ opG b (b 0) (B - 2) (b 1))) → K x2 e v13 f') → ∀ d y (x2 v13 : Int32) f', y + d = b 1 → ((x2 = (1 : Int32) ∧ v13 = nI (opS b (b 0) y) ∧ opG b (b 0) (B - 2) y ∧ relB (y * b 0) f' (opT b (b 0) y)) ∨ (x2 = (0 : Int32) ∧ ¬ opG b (b 0) (B - 2) (b 1))) →
      lp_ZM_open_127 zt zw zh zp zs zb (nI B) zl zo zc zr zu zv zq zi zk zm zd zg t2 t8 t11 post K (d + 1) x2 (nI y) v13 f' := by
    intro t2 t8 t11 K hK d
    induction d with
    | zero =>
      intro y x2 v13 f' hy hst
      obtain rfl : y = b 1 := by omega
      refine ⟨fun _ => hK _ _ _ _ hst, fun z => ?_⟩
      rw [f1] at z
      exact absurd ((nI_leI (by omega) (by omega)).mpr (Nat.le_refl _)) z
    | succ d ih =>
      intro y x2 v13 f' hy hst
      refine ⟨fun z => ?_, fun _ => ⟨fun z => ?_, fun z => ?_⟩⟩
      · rw [f1] at z
        exact absurd ((nI_leI (by omega) (by omega)).mp z) (by omega)
      · rcases hst with ⟨h5, _⟩ | h5
        · exact absurd (h5.symm.trans z) nz1
        · exact hK _ _ _ _ (Or.inr h5)
      · rcases hst with ⟨_, rfl, hG, hg⟩ | ⟨h5, _⟩
        · have hS := opS_le q4 hG
          have hrow8 : y * b 0 + b 0 ≤ 64 := by
            have : (y + 1) * b 0 ≤ 8 * 8 := Nat.mul_le_mul (by omega) c2
            rw [Nat.add_mul, Nat.one_mul] at this; omega
          have hrow : ∀ {X : Int32 → (Nat → Int32) → Int32 → Prop}, (rowG b (opT b (b 0) y) (b 0) y (opS b (b 0) y) (B - 2) → ∀ g'', relB (y * b 0 + b 0) g'' (rowT b (opT b (b 0) y) (b 0) y (opS b (b 0) y)) → X 1 g'' (nI (nxt b (b 0) (opS b (b 0) y)))) → (¬ rowG b (opT b (b 0) y) (b 0) y (opS b (b 0) y) (B - 2) → ∀ g'' q, X 0 g'' q) → wp_ZM_readRow (0 : Int32) zw zh zp zs zb (nI B) zl f' (zb (0 : Int32).toNatClampNeg) (zb (1 : Int32).toNatClampNeg) zu zv (nI (opS b (b 0) y)) zi zk zm zd zg (nI y) (nI B - (2 : Int32)) X := by
            intro X hX hX0
            rw [e, f0]
            exact m_readRow hB (by omega) hf ho (by omega) c2 hrow8 (by omega) hg (opT_ok (by omega) hG) (by omega) hX hX0
          refine hrow (fun hr g'' hg'' => ?_) (fun hr g'' q' => ?_)
          · show lp_ZM_open_127 zt zw zh zp zs zb (nI B) zl zo zc zr zu zv zq zi zk zm zd zg t2 t8 t11 post K (d + 1) 1 (nI y + 1) (nI (nxt b (b 0) (opS b (b 0) y))) g''
            rw [nI_1]
            refine ih (y + 1) 1 _ g'' (by omega) (Or.inl ⟨rfl, rfl, fun y' hy' => ?_, ?_⟩)
            · rcases Nat.lt_or_ge y' y with w | w
              · exact hG y' w
              · obtain rfl : y' = y := by omega
                exact hr
            · rw [Nat.add_mul, Nat.one_mul]; exact hg''
          · show lp_ZM_open_127 zt zw zh zp zs zb (nI B) zl zo zc zr zu zv zq zi zk zm zd zg t2 t8 t11 post K (d + 1) 0 (nI y + 1) q' g''
            rw [nI_1]
            exact ih (y + 1) 0 _ g'' (by omega) (Or.inr ⟨rfl, fun w => hr (w y (by omega))⟩)
        · exact absurd h5 z
  refine ⟨b 1 + 1, key _ _ _ _ (fun x2 e' v13 f' hst => ?_) (b 1) 0 1 2 zo (by omega) (Or.inl ⟨rfl, rfl, fun y hy => absurd hy (by omega), fun k hk => by rw [Nat.zero_mul] at hk; exact absurd hk (by omega)⟩)⟩
  refine ⟨fun z => ?_, fun z => ⟨fun zz => ?_, fun zz => ?_⟩⟩
  · rcases hst with ⟨h5, _⟩ | ⟨_, h5⟩
    · exact absurd (h5.symm.trans z) nz1
    · exact hN (fun w => h5 w.2.2.2.2.2.1) _ _ _ _
  · rcases hst with ⟨_, rfl, hG, hg⟩ | ⟨h5, _⟩
    · have hS := opS_le q4 hG
      rw [e] at zz
      have zz := nI_inj (by omega) (by omega) zz
      have hop : opn b B := ⟨by omega, c1, c2, r1, r2, hG, zz⟩
      have em : (zb (1 : Int32).toNatClampNeg) * (zb (0 : Int32).toNatClampNeg) = nI (b 1 * b 0) := by rw [f0, f1, pk_mul]
      have copy : ∀ (t2 t8 t11 t1 t3 : Int32) (t4 : Int32) (K : Int32 → (Nat → Int32) → Prop), (∀ e l, relB (b 1 * b 0) l (opT b (b 0) (b 1)) → K e l) → ∀ d k l, k + d = b 1 * b 0 → relB k l (opT b (b 0) (b 1)) → lp_ZM_open_184 zt zw zh zp zs zb (nI B) zl zo zc zr zu zv zq zi zk zm zd zg t2 t8 t11 t1 t3 t4 f' post K (d + 1) (nI k) l := by
        intro t2 t8 t11 t1 t3 t4 K hK d
        induction d with
        | zero =>
          intro k l hk hl
          obtain rfl : k = b 1 * b 0 := by omega
          refine ⟨fun _ => hK _ _ hl, fun z => ?_⟩
          rw [em] at z
          exact absurd ((nI_leI (by omega) (by omega)).mpr (Nat.le_refl _)) z
        | succ d ih =>
          intro k l hk hl
          have hin : vp_in (nI k) 64 := vp_in_nI (by omega) (by decide)
          refine ⟨fun z => ?_, fun _ => ⟨hin, hin, ?_⟩⟩
          · rw [em] at z
            exact absurd ((nI_leI (by omega) (by omega)).mp z) (by omega)
          · show lp_ZM_open_184 zt zw zh zp zs zb (nI B) zl zo zc zr zu zv zq zi zk zm zd zg t2 t8 t11 t1 t3 t4 f' post K (d + 1) (nI k + 1) (upd l (nI k).toNatClampNeg (f' (nI k).toNatClampNeg))
            rw [nI_1, nI_clamp (by omega)]
            exact ih (k + 1) _ (by omega) (relB_ext (n := k) hl (hg k (by omega)))
      refine ⟨b 1 * b 0 + 1, copy _ _ _ _ _ _ _ (fun e l hl => ?_) (b 1 * b 0) 0 zl (by omega) (fun k hk => absurd hk (by omega))⟩
      rw [em, f0, f1]
      rw [Nat.mul_comm] at hl ⊢
      exact hY hop l _ _ _ _ hl
    · exact absurd h5 z
  · rcases hst with ⟨_, rfl, hG, hg⟩ | ⟨h5, _⟩
    · exact hN (fun w => zz (by rw [e, w.2.2.2.2.2.2])) _ _ _ _
    · exact absurd h5 z
end MO
