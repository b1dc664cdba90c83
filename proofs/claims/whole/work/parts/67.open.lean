/-! open, the class -/
def opS (b : Nat → Nat) (c : Nat) : Nat → Nat
  | 0 => 2
  | y + 1 => nxt b c (opS b c y)
def opT (b : Nat → Nat) (c : Nat) : Nat → Nat → Nat
  | 0 => fun _ => 0
  | y + 1 => rowT b (opT b c y) c y (opS b c y)
def opG (b : Nat → Nat) (c E n : Nat) : Prop := ∀ y, y < n → rowG b (opT b c y) c y (opS b c y) E
theorem opT_ok {b : Nat → Nat} {c E n : Nat} (hc : 0 < c) (h : opG b c E n) : okB (n * c) (opT b c n) := by
  induction n with
  | zero => intro k hk; rw [Nat.zero_mul] at hk; exact absurd hk (by omega)
  | succ n ih =>
    rw [Nat.add_mul, Nat.one_mul]
    exact rdT_ok hc (ih (fun y hy => h y (by omega))) (h n (by omega)).2.2.2.1
theorem opS_le {b : Nat → Nat} {c E n : Nat} (h2 : 2 ≤ E) (h : opG b c E n) : opS b c n ≤ E := by
  cases n with
  | zero => exact h2
  | succ n => exact (h n (by omega)).2.2.1
/-- the bytes are a tile -/
def opn (b : Nat → Nat) (B : Nat) : Prop := 4 ≤ B ∧ 1 ≤ b 0 ∧ b 0 ≤ 8 ∧ 1 ≤ b 1 ∧ b 1 ≤ 8 ∧ opG b (b 0) (B - 2) (b 1) ∧ opS b (b 0) (b 1) = B - 2
def sumOk (b : Nat → Nat) (B : Nat) : Prop := 2 ≤ B ∧ smB b (B - 2) = b (B - 2) + b (B - 1) * 256
theorem m1_ne {n : Nat} (h : n < 2 ^ 31) : ¬ nI n = (-1 : Int32) := by
  intro q
  have := congrArg Int32.toInt q
  rw [nI_toInt h] at this
  have e : (-1 : Int32).toInt = -1 := rfl
  omega
theorem q_isSide {v : Nat} (hv : v < 256) {post : Int32 → Prop} (h1 : 1 ≤ v → v ≤ 8 → post 1) (h0 : ¬ (1 ≤ v ∧ v ≤ 8) → post 0) : wp_ZO_isSide (nI v) post := by
  refine ⟨fun q => h0 (fun z => ?_), fun q => ⟨fun q2 => h0 (fun z => ?_), fun q2 => ?_⟩⟩
  · have := (nI_ltI (b := 1) (by omega) (by decide)).mp q; omega
  · have := (nI_ltI (a := 8) (by decide) (by omega)).mp q2; omega
  · exact h1 (nlt_of (b := 1) (by omega) (by decide) q) (nlt_of (a := 8) (by decide) (by omega) q2)
theorem sub2_lt {B : Nat} (hB : B ≤ 256) : nI B - (2 : Int32) < (0 : Int32) ↔ B < 2 := by
  refine ⟨fun q => ?_, fun q => pk_sneg (b := 2) (by decide) q⟩
  rcases Nat.lt_or_ge B 2 with z | z
  · exact z
  · rw [show (2 : Int32) = nI 2 from rfl, pk_sub z] at q
    exact absurd q (nI_pos (by omega))
theorem q_isSumRight {B : Nat} {f : Nat → Int32} {b : Nat → Nat} (hB : B ≤ 256) (hf : relB B f b) (ho : okB B b) {post : Int32 → Prop} (h1 : sumOk b B → post 1) (h0 : ¬ sumOk b B → post 0) : wp_ZO_isSumRight (nI B) f post := by
  refine ⟨fun q => h0 (fun z => by have := (sub2_lt hB).mp q; have := z.1; omega), fun q => ?_⟩
  have q : 2 ≤ B := by
    rcases Nat.lt_or_ge B 2 with z | z
    · exact absurd ((sub2_lt hB).mpr z) q
    · exact z
  have e : nI B - (2 : Int32) = nI (B - 2) := pk_sub (b := 2) q
  rw [e]
  have hsm := smB_lt b (B - 2)
  have o1 := ho (B - 2) (by omega)
  have o2 := ho (B - 1) (by omega)
  refine q_sum (by omega) hB hf ho ⟨vp_in_nI (by omega) (by decide), ?_, ?_⟩
  · rw [nI_1]; exact vp_in_nI (by omega) (by decide)
  rw [nI_1, nI_clamp (by omega), nI_clamp (by omega), show B - 2 + 1 = B - 1 by omega, hf (B - 2) (by omega), hf (B - 1) (by omega)]
  have es : nI (b (B - 2)) + (nI (b (B - 1)) <<< ((8 : Int32) &&& 31)) = nI (b (B - 2) + b (B - 1) * 256) := by
    rw [show (nI (b (B - 1)) <<< ((8 : Int32) &&& 31)) = nI (b (B - 1) * 2 ^ 8) from shl_nI (k := 8) (by decide) (by omega), nI_add]
  rw [es]
  exact ⟨fun z => h1 ⟨q, nI_inj (by omega) (by omega) z⟩, fun z => h0 (fun w => z (by rw [w.2]))⟩
theorem q_openTile {B : Nat} {f g : Nat → Int32} {b : Nat → Nat} {tw th : Int32} (hB : B ≤ 256) (h2 : 2 ≤ B) (hf : relB B f b) (ho : okB B b) {post : Int32 → Int32 → Int32 → (Nat → Int32) → Prop} (h1 : opn b B → ∀ g', relB (b 0 * b 1) g' (opT b (b 0) (b 1)) → post 1 (nI (b 0)) (nI (b 1)) g') (h0 : ¬ opn b B → ∀ a c g', post 0 a c g') : wp_ZO_openTile (nI B) f tw th g post := by
  have e : nI B - (2 : Int32) = nI (B - 2) := pk_sub (b := 2) h2
  unfold wp_ZO_openTile
  rw [e]
  refine ⟨fun q => h0 (fun z => ?_) _ _ _, fun q => ⟨vp_in_nI (n := 0) (by decide) (by decide), ?_⟩⟩
  · have := (nI_ltI (b := 2) (by omega) (by decide)).mp q; have := z.1; omega
  have q := nlt_of (b := 2) (by omega) (by decide) q
  have f0 : f (0 : Int32).toNatClampNeg = nI (b 0) := hf 0 (by omega)
  have f1 : f (1 : Int32).toNatClampNeg = nI (b 1) := hf 1 (by omega)
  have o0 := ho 0 (by omega)
  have o1 := ho 1 (by omega)
  have i0 : vp_in (0 : Int32) 256 := vp_in_nI (n := 0) (by decide) (by decide)
  have i1 : vp_in (1 : Int32) 256 := vp_in_nI (n := 1) (by decide) (by decide)
  rw [f0]
  refine q_isSide o0 (fun c1 c2 => ⟨fun z => absurd z nz1, fun _ => ⟨i1, ?_⟩⟩) (fun z => ⟨fun _ => h0 (fun w => z ⟨w.2.1, w.2.2.1⟩) _ _ _, fun z => absurd rfl z⟩)
  rw [f1]
  refine q_isSide o1 (fun r1 r2 => ⟨fun z => absurd z nz1, fun _ => ⟨i0, i1, ?_⟩⟩) (fun z => ⟨fun _ => h0 (fun w => z ⟨w.2.2.2.1, w.2.2.2.2.1⟩) _ _ _, fun z => absurd rfl z⟩)
  have key : ∀ (r3 r6 : Int32) (K : Int32 → Int32 → (Nat → Int32) → Prop), (∀ e g', opG b (b 0) (B - 2) (b 1) → relB (b 1 * b 0) g' (opT b (b 0) (b 1)) → K (nI (opS b (b 0) (b 1))) e g') → (∀ e g', ¬ opG b (b 0) (B - 2) (b 1) → K (-1) e g') → ∀ d y g', y + d = b 1 → opG b (b 0) (B - 2) y → relB (y * b 0) g' (opT b (b 0) y) →
      lp_ZO_openTile_59 (nI B) f tw th g r3 r6 (nI (b 0)) (nI (b 1)) post K (d + 2) (nI (opS b (b 0) y)) (nI y) g' := by
    intro r3 r6 K hK hK0 d
    induction d with
    | zero =>
      intro y g' hy hG hg
      obtain rfl : y = b 1 := by omega
      exact ⟨fun _ => hK _ _ hG hg, fun z => absurd ((nI_leI (by omega) (by omega)).mpr (Nat.le_refl _)) z⟩
    | succ d ih =>
      intro y g' hy hG hg
      have hS := opS_le q hG
      refine ⟨fun z => absurd ((nI_leI (by omega) (by omega)).mp z) (by omega), fun _ => ⟨fun z => absurd z (m1_ne (by omega)), fun _ => ?_⟩⟩
      have hrow : ∀ {X : Int32 → (Nat → Int32) → Prop}, (rowG b (opT b (b 0) y) (b 0) y (opS b (b 0) y) (B - 2) → ∀ g'', relB (y * b 0 + b 0) g'' (rowT b (opT b (b 0) y) (b 0) y (opS b (b 0) y)) → X (nI (nxt b (b 0) (opS b (b 0) y))) g'') → (¬ rowG b (opT b (b 0) y) (b 0) y (opS b (b 0) y) (B - 2) → ∀ g'', X (-1) g'') → wp_ZO_openRow (nI B) f (nI (b 0)) (nI (b 1)) g' (nI (opS b (b 0) y)) (nI B - (2 : Int32)) (nI y) X := by
        intro X hX hX0
        rw [e]
        exact q_openRow hB (by omega) hf ho (by omega) c2 r2 (by omega) hg (opT_ok (by omega) hG) (by omega) hX hX0
      refine hrow (fun hr g'' hg'' => ?_) (fun hr g'' => ?_)
      · show lp_ZO_openTile_59 (nI B) f tw th g r3 r6 (nI (b 0)) (nI (b 1)) post K (d + 2) (nI (nxt b (b 0) (opS b (b 0) y))) (nI y + 1) g''
        rw [nI_1]
        refine ih (y + 1) g'' (by omega) (fun y' hy' => ?_) ?_
        · rcases Nat.lt_or_ge y' y with w | w
          · exact hG y' w
          · obtain rfl : y' = y := by omega
            exact hr
        · rw [Nat.add_mul, Nat.one_mul]; exact hg''
      · have hbad : ¬ opG b (b 0) (B - 2) (b 1) := fun w => hr (w y (by omega))
        show lp_ZO_openTile_59 (nI B) f tw th g r3 r6 (nI (b 0)) (nI (b 1)) post K (d + 1 + 1) (-1) (nI y + 1) g''
        exact ⟨fun _ => hK0 _ _ hbad, fun _ => ⟨fun _ => hK0 _ _ hbad, fun z => absurd rfl z⟩⟩
  have k0 := fun r3 r6 K hK hK0 => key r3 r6 K hK hK0 (b 1) 0 g (by omega) (fun y hy => absurd hy (by omega)) (fun k hk => by rw [Nat.zero_mul] at hk; exact absurd hk (by omega))
  refine ⟨b 1 + 2, k0 _ _ _ (fun e' g' hG hg => ⟨fun z => ?_, fun z => ?_⟩) (fun e' g' hG => ⟨fun z => ?_, fun _ => h0 (fun w => hG w.2.2.2.2.2.1) _ _ _⟩)⟩
  · have hS := opS_le q hG
    have z := nI_inj (by omega) (by omega) z
    rw [Nat.mul_comm] at hg
    exact h1 ⟨by omega, c1, c2, r1, r2, hG, z⟩ g' hg
  · exact h0 (fun w => z (by rw [w.2.2.2.2.2.2])) _ _ _
  · exact absurd z.symm (m1_ne (by omega))
section QO
variable {pw ph : Int32} {pn : Nat} {pf : Nat → Int32} {gw gh : Int32} {gn : Nat} {gf : Nat → Int32} {yk bl : Int32} {bf : Nat → Int32} {kn : Nat} {kf : Nat → Int32} {sn : Nat} {sf : Nat → Int32} {sd tw th : Int32} {tf : Nat → Int32} {uw uh : Int32} {uf : Nat → Int32}
theorem q_open {B : Nat} {b : Nat → Nat} (hB : B ≤ 256) (hf : relB B bf b) (ho : okB B b) {post : Int32 → Int32 → Int32 → (Nat → Int32) → Int32 → Int32 → (Nat → Int32) → Prop} (hS : ¬ sumOk b B → post 0 tw th tf uw uh uf) (hN : sumOk b B → ¬ opn b B → ∀ a c g', post (-1) tw th tf a c g') (hY : sumOk b B → opn b B → ∀ g' a c u, relB (b 0 * b 1) g' (opT b (b 0) (b 1)) → post (nI (b 0 * b 1)) (nI (b 0)) (nI (b 1)) g' a c u) : wp_ZQ_open pw ph pn pf gw gh gn gf yk (nI B) bf kn kf sn sf sd tw th tf uw uh uf post := by
  refine q_isSumRight hB hf ho (fun hs => ⟨fun z => absurd z nz1, fun _ => q_openTile hB hs.1 hf ho (fun hn g' hg => ⟨fun z => absurd z nz1, fun _ => ?_⟩) (fun hn a c g' => ⟨fun _ => hN hs hn a c g', fun z => absurd rfl z⟩)⟩) (fun hs => ⟨fun _ => hS hs, fun z => absurd rfl z⟩)
  unfold wp_ZT_sampleCount
  rw [pk_mul]
  exact hY hs hn g' _ _ _ hg
end QO
