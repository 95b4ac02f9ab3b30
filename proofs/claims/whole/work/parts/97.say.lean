/-! THE CALL get: what it answers, and the model's answer. -/
/-- which refusal get gives (0: none), and the number -/
def gSay (M : bM) (x y : Int32) (k v : Int32) : Prop :=
  (k = 1 ∧ ¬ InR x 3) ∨ ∃ r : Nat, ∃ z : Int, x = iI (r : Int) ∧ r < 3 ∧ M 6 r 2 = iI z ∧ -1 ≤ z ∧ z ≤ 40 ∧
    ((k = 2 ∧ z < 0) ∨ (0 ≤ z ∧ ∃ a : Int, y = iI a ∧ -2147483648 ≤ a ∧ a < 2147483648 ∧ ((k = 3 ∧ ¬ (0 ≤ a ∧ a < z)) ∨ (k = 0 ∧ 0 ≤ a ∧ a < z ∧ v = M 12 r a.toNat))))
theorem gEnd {M : bM} {Q : bQ} {k x1 x2 : Int32} (hk : ¬ k = 0) (K : Q (some (cI (0 : Int32))) (bU M 26 0 2 k)) : ((¬ ((bU M 26 0 2 k) 26 0 2) = 0) → (Q (some (cI (0 : Int32))) (bU M 26 0 2 k))) ∧ (¬ (¬ ((bU M 26 0 2 k) 26 0 2) = 0) → ((vp_in (((40 : Int32) * x1) + x2) 120) ∧ (Q (some (cI ((bU M 26 0 2 k) 56 0 (((40 : Int32) * x1) + x2).toNatClampNeg))) (bU M 26 0 2 k)))) :=
  ⟨fun _ => K, fun c => absurd (by rw [bU_at]; exact hk) c⟩
theorem get_say {n : Nat} {M : bM} {x y : Int32} (h : Rel n M) : ∃ k v : Int32, gSay M x y k v ∧ ∀ {Q : bQ}, (∀ u : Int32, (k = 0 → u = v) → Q (some (cI u)) (bU M 26 0 2 k)) → bCall 140 [cR 26 0, cI x, cI y] M Q := by
  obtain ⟨p, S, c, u, L, hR⟩ := h
  by_cases h1 : InR x 3
  · obtain ⟨r, hr, hr3⟩ := h1
    obtain ⟨e1, ⟨z, za, zb, e2, e3⟩, e4⟩ := hR.2.2.2.2.2.2 r hr3
    have hge : (0 : Int32) ≤ iI z ↔ 0 ≤ z := by
      rw [l0]
      exact iI_le (by omega) (by omega) (by omega) (by omega)
    have hc : iI z - 1 = iI (z - 1) := by rw [← iI_sub]; rfl
    by_cases hz : 0 ≤ z
    · obtain ⟨a, ha, ha1, ha2⟩ := iI_of y
      by_cases hin : 0 ≤ a ∧ a < z
      · refine ⟨0, M 12 r a.toNat, Or.inr ⟨r, z, hr, hr3, e2, za, zb, Or.inr ⟨hz, a, ha, ha1, ha2, Or.inr ⟨rfl, hin.1, hin.2, rfl⟩⟩⟩, fun {Q} K => g_X7_get_0 (T_isRow_t hr hr3 (n1 ⟨vin hr, ?_⟩))⟩
        rw [cl_of hr, e3]
        refine ⟨fun _ => ⟨vin hr, T_in_t ha l0 hc hin.1 (by omega) (by omega) (by omega) (n1 ⟨fun c => absurd bU_at c, fun _ => ?_⟩)⟩, fun q => absurd (hge.mpr hz) q⟩
        have hs : (40 : Int32) * x + y = iI (((40 * r + a.toNat : Nat)) : Int) := by
          rw [hr, ha, show (40 : Int32) = iI 40 from rfl, iI_mul, iI_add]
          congr 1
          omega
        refine ⟨vin hs (by omega) (by omega) (by omega), K _ fun _ => ?_⟩
        rw [cl_of hs (by omega), bU_ne (by omega)]
        exact (e4 a.toNat (by omega)).symm
      · refine ⟨3, 0, Or.inr ⟨r, z, hr, hr3, e2, za, zb, Or.inr ⟨hz, a, ha, ha1, ha2, Or.inl ⟨rfl, hin⟩⟩⟩, fun {Q} K => g_X7_get_0 (T_isRow_t hr hr3 (n1 ⟨vin hr, ?_⟩))⟩
        rw [cl_of hr, e3]
        exact ⟨fun _ => ⟨vin hr, T_in_f ha l0 hc ha1 ha2 (by omega) (by omega) (by omega) (by omega) (by omega) (n0 (gEnd (by decide) (K _ fun c => absurd c (by decide))))⟩, fun q => absurd (hge.mpr hz) q⟩
    · refine ⟨2, 0, Or.inr ⟨r, z, hr, hr3, e2, za, zb, Or.inl ⟨rfl, by omega⟩⟩, fun {Q} K => g_X7_get_0 (T_isRow_t hr hr3 (n1 ⟨vin hr, ?_⟩))⟩
      rw [cl_of hr, e3]
      exact ⟨fun q => absurd (hge.mp q) hz, fun _ => gEnd (by decide) (K _ fun c => absurd c (by decide))⟩
  · exact ⟨1, 0, Or.inl ⟨rfl, h1⟩, fun {Q} K => g_X7_get_0 (T_isRow_f h1 (n0 (gEnd (by decide) (K _ fun c => absurd c (by decide)))))⟩
theorem Rel.thr {n : Nat} {M : bM} (h : Rel n M) (k : Int32) : Rel (n + 1) (bU M 26 0 2 k) := by
  obtain ⟨p, S, c, u, L, hR⟩ := h
  exact hR.fr bU_fr (fun g j i z => by
    unfold rdF rdS rdC rdT rdB rdL rdH at z
    omega)
