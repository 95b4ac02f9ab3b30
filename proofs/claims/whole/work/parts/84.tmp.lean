section HB
variable {p : Program} {l : Launch} {e : Env} {s : State} {m : MethodId} {args : Array Value} {below : List Frame} {meth : Method} {c : Code} {R : Room} {A : Nat → Prop} {Qf : State → Prop} {pc : Nat}
/-- behind a call -/
theorem h_back {A1 free : Nat → Prop} {Qa : State → Outcome → State → Prop} {H : Heap} {locs : List Loc} {lA : Array Slot} {st0 rest : List Value} {cells slots mc ms : Nat} (hr : va_Run p l e R s m args below meth c H locs cells slots mc ms (F0 m pc lA st0) rest Qa free) (hS : va_S A s.heap H locs) (hA : ∀ q, q < H.size → A1 q → A q) (hf : ∀ q, free q → A q) (hQ : ∀ st oc t, Qa st oc t → va_F A1 st t)
    (kk : ∀ (w : Option Value) (st₀ t : State) (H1 : Heap) (locs1 : List Loc), st₀.heap = H → t.heap = H1 → Qa st₀ (.returned w) t → va_S A s.heap H1 locs1 → W p l e R s m args below meth c H1 locs1 (cells + mc) (slots + ms) Qf (F0 m (pc + 3) lA (w.toList ++ rest))) : W p l e R s m args below meth c H locs cells slots Qf (F0 m pc lA st0) := by
  intro T hT X
  obtain ⟨w, st₀, t, T', L, h0, X', hL, e1, e2, hq, stp⟩ := hr T hT X
  have hF := hQ _ _ _ hq
  obtain ⟨hz, hk⟩ := hF
  rw [h0] at hz hk
  have hS1 : va_S A s.heap T'.heap (locs ++ L) := ⟨Nat.le_trans hS.1 (by rw [e1]; exact hz), fun q h1 h2 => by rw [e1, hk q (Nat.lt_of_lt_of_le h1 hS.1) (fun z => h2 (hA q (Nat.lt_of_lt_of_le h1 hS.1) z))]; exact hS.2.1 q h1 h2, fun q hq => by
      rcases List.mem_append.mp hq with h | h
      · exact hS.2.2 q h
      · exact hf _ (hL q h)⟩
  obtain ⟨t2, a1, b1⟩ := kk w st₀ t T'.heap (locs ++ L) h0 e1.symm hq hS1 T' rfl X'
  exact ⟨t2, stp t2 a1, b1⟩
end HB
