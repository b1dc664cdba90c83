/-! one row, opened by the class -/
theorem nle_of {a b : Nat} (ha : a < 2 ^ 31) (hb : b < 2 ^ 31) (h : ¬ nI a ≤ nI b) : b < a := by
  rcases Nat.lt_or_ge b a with q | q
  · exact q
  · exact absurd ((nI_leI ha hb).mpr q) h
theorem nlt_of {a b : Nat} (ha : a < 2 ^ 31) (hb : b < 2 ^ 31) (h : ¬ nI a < nI b) : b ≤ a := by
  rcases Nat.lt_or_ge a b with q | q
  · exact absurd ((nI_ltI ha hb).mpr q) h
  · exact q
theorem rwV_lt {b : Nat → Nat} {s x : Nat} (h9 : b s ≤ 9) : rwV b s x < 512 := by
  have h1 := bvN_lt b (8 * (s + 1) + b s * x) (b s)
  have h2 : 2 ^ b s ≤ 2 ^ 9 := Nat.pow_le_pow_right (by decide) h9
  unfold rwV
  omega
theorem q_openRow {bl : Int32} {B c r y s E : Nat} {f g : Nat → Int32} {b t : Nat → Nat} (hB : B ≤ 256) (hE : E + 2 ≤ B) (hf : relB B f b) (ho : okB B b) (hc0 : 0 < c) (hc : c ≤ 8) (hr : r ≤ 8) (hy : y < r) (hg : relB (y * c) g t) (ht : okB (y * c) t) (hs : s ≤ 256) {post : Int32 → (Nat → Int32) → Prop}
    (hG : rowG b t c y s E → ∀ g', relB (y * c + c) g' (rowT b t c y s) → post (nI (nxt b c s)) g') (hN : ¬ rowG b t c y s E → ∀ g', post (-1) g') : wp_ZO_openRow bl f (nI c) (nI r) g (nI s) (nI E) (nI y) post := by
  refine ⟨fun q => ?_, fun q => ?_⟩
  · have q := (nI_leI (by omega) (by omega)).mp q
    exact hN (fun z => by have := z.1; omega) _
  have q := nle_of (by omega) (by omega) q
  have hin : vp_in (nI s) 256 := vp_in_nI (by omega) (by decide)
  have hbs : f (nI s).toNatClampNeg = nI (b s) := by rw [nI_clamp (by omega)]; exact hf s (by omega)
  have hb256 := ho s (by omega)
  refine ⟨hin, fun q9 => ⟨hin, ?_⟩, fun q9 => ?_⟩
  rotate_left
  · rw [hbs] at q9
    have q9 := nle_of (b := 9) (by omega) (by decide) q9
    exact hN (fun z => by have := z.2.1; omega) _
  rw [hbs] at q9
  have q9 := (nI_leI (b := 9) (by omega) (by decide)).mp q9
  have h72 : b s * c ≤ 9 * 8 := Nat.mul_le_mul q9 hc
  have en : (nI s + (1 : Int32)) + ((((f (nI s).toNatClampNeg) * nI c) + (7 : Int32)) / (8 : Int32)) = nI (nxt b c s) := by
    rw [hbs, pk_mul, nI_1, show (7 : Int32) = nI 7 from rfl, nI_add, show (8 : Int32) = nI 8 from rfl, pk_div (by omega) (by decide) (by decide), nI_add]
    rfl
  have enx : nxt b c s = s + 1 + (b s * c + 7) / 8 := rfl
  refine ⟨fun qn => ?_, fun qn => ?_⟩
  rotate_left
  · rw [en] at qn
    have qn := nle_of (by omega) (by omega) qn
    exact hN (fun z => by have := z.2.2.1; omega) _
  rw [en] at qn
  have qn := (nI_leI (by omega) (by omega)).mp qn
  have hvl : ∀ x, rwV b s x < 512 := fun x => rwV_lt q9
  have key : ∀ (K : Int32 → Int32 → Int32 → (Nat → Int32) → Prop), (∀ e g', rdOk t c (y * c) (rwV b s) c → relB (y * c + c) g' (rowT b t c y s) → K (nI (8 * (s + 1) + b s * c)) (nI (mxR (rwV b s) c)) e g') → ∀ d x g', x + d = c → rdOk t c (y * c) (rwV b s) x → relB (y * c + x) g' (rdT t c (y * c) (rwV b s) x) →
      lp_ZO_openRow_71 bl f (nI c) (nI r) g (nI s) (nI E) (nI y) post K (d + 1) (nI (8 * (s + 1) + b s * x)) (nI (mxR (rwV b s) x)) (nI x) g' := by
    intro K hK d
    induction d with
    | zero =>
      intro x g' hx hok hg'
      obtain rfl : x = c := by omega
      exact ⟨fun _ => hK _ _ hok hg', fun z => absurd ((nI_leI (by omega) (by omega)).mpr (Nat.le_refl _)) z⟩
    | succ d ih =>
      intro x g' hx hok hg'
      have hbx : b s * x + b s ≤ b s * c := by
        have := Nat.mul_le_mul_left (b s) (show x + 1 ≤ c by omega)
        rw [Nat.mul_add, Nat.mul_one] at this; exact this
      have hbits : ∀ {X : Int32 → Prop}, X (nI (rwV b s x)) → wp_ZB_bitsFrom bl f (nI (8 * (s + 1) + b s * x)) (f (nI s).toNatClampNeg) X := by
        intro X hX
        rw [hbs]
        exact q_bitsFrom hf ho hB q9 (by omega) hX
      have hokt := rdT_ok hc0 ht hok
      have hbf := bfr_lt (t := rdT t c (y * c) (rwV b s) x) (c := c) (k := y * c + x) (fun j hj => hokt j hj) hc0
      refine ⟨fun z => absurd ((nI_leI (by omega) (by omega)).mp z) (by omega), fun _ => hbits (q_former hc hr (by omega) hy hg' (q_diff (hvl x) ?_))⟩
      by_cases hsm : smOk (bfr (rdT t c (y * c) (rwV b s) x) c (y * c + x)) (rwV b s x)
      · have hok' : rdOk t c (y * c) (rwV b s) (x + 1) := by
          intro x' hx'
          rcases Nat.lt_or_ge x' x with w | w
          · exact hok x' w
          · obtain rfl : x' = x := by omega
            exact hsm
        rw [smV_ok hsm]
        refine p_isSample (fun _ => ⟨fun z => absurd z nz1, fun _ => q_tSet hc hr (by omega) hy ?_⟩) (fun z => absurd ⟨_, smV_lt hbf hsm, rfl⟩ z)
        show lp_ZO_openRow_71 bl f (nI c) (nI r) g (nI s) (nI E) (nI y) post K (d + 1) (nI (8 * (s + 1) + b s * x) + f (nI s).toNatClampNeg) (if nI (mxR (rwV b s) x) < nI (rwV b s x) then nI (rwV b s x) else nI (mxR (rwV b s) x)) (nI x + 1) _
        have hmx : mxR (rwV b s) x < 512 := mxR_lt (by decide) (fun i _ => hvl i)
        have hvx := hvl x
        have em : (if nI (mxR (rwV b s) x) < nI (rwV b s x) then nI (rwV b s x) else nI (mxR (rwV b s) x)) = nI (mxR (rwV b s) (x + 1)) := by
          show _ = nI (max (mxR (rwV b s) x) (rwV b s x))
          by_cases q : mxR (rwV b s) x < rwV b s x
          · rw [if_pos ((nI_ltI (by omega) (by omega)).mpr q), Nat.max_eq_right (by omega)]
          · rw [if_neg (fun z => q ((nI_ltI (by omega) (by omega)).mp z)), Nat.max_eq_left (by omega)]
        rw [em, hbs, nI_add, nI_1, show 8 * (s + 1) + b s * x + b s = 8 * (s + 1) + b s * (x + 1) by rw [Nat.mul_add (b s) x 1, Nat.mul_one]; omega]
        exact ih (x + 1) _ (by omega) hok' (relB_app hg')
      · refine p_isSample (fun z => absurd z (smV_bad hbf (hvl x) hsm)) (fun _ => ⟨fun _ => hN (fun z => hsm (z.2.2.2.1 x (by omega))) _, fun z => absurd rfl z⟩)
  have h0 : nI (8 * (s + 1) + b s * 0) = (8 : Int32) * (nI s + (1 : Int32)) := by
    rw [Nat.mul_zero, Nat.add_zero, nI_1, show (8 : Int32) = nI 8 from rfl, pk_mul]
  have k0 := fun K hK => key K hK c 0 g (by omega) (fun x hx => absurd hx (by omega)) hg
  rw [h0] at k0
  refine ⟨c + 1, k0 _ (fun e g' hok hg' => ?_)⟩
  have erest : ((8 : Int32) * ((nI s + (1 : Int32)) + ((((f (nI s).toNatClampNeg) * nI c) + (7 : Int32)) / (8 : Int32)))) - nI (8 * (s + 1) + b s * c) = nI (8 * nxt b c s - (8 * (s + 1) + b s * c)) := by
    rw [en, show (8 : Int32) = nI 8 from rfl, pk_mul, pk_sub (by omega)]
  rw [erest]
  refine q_bitsFrom hf ho hB (by omega) (by omega) ?_
  have hlt := bvN_lt b (8 * (s + 1) + b s * c) (8 * nxt b c s - (8 * (s + 1) + b s * c))
  have hp8 : 2 ^ (8 * nxt b c s - (8 * (s + 1) + b s * c)) ≤ 2 ^ 8 := Nat.pow_le_pow_right (by decide) (by omega)
  have hmx : mxR (rwV b s) c < 512 := mxR_lt (by decide) (fun i _ => hvl i)
  have hn9 := nb_9 hmx
  refine ⟨_, fun _ hh => hh, ⟨fun e0 => ⟨fun z => absurd z nz1, fun _ => q_bits hmx ⟨fun e1 => ?_, fun e1 => ?_⟩⟩, fun e0 => ⟨fun _ => ?_, fun z => absurd rfl z⟩⟩⟩
  · have e0 : bvN b (8 * (s + 1) + b s * c) (8 * nxt b c s - (8 * (s + 1) + b s * c)) = 0 := nI_inj (by omega) (by omega) e0
    rw [hbs] at e1
    have e1 := nI_inj (by omega) (by omega) e1
    rw [en]
    exact hG ⟨q, q9, qn, hok, e0, e1⟩ g' hg'
  · exact hN (fun z => e1 (by rw [hbs, z.2.2.2.2.2])) _
  · exact hN (fun z => e0 (by rw [z.2.2.2.2.1]; rfl)) _
