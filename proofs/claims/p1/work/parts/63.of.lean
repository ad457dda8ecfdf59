/-- the start, out of the law's own predicate of the script -/
theorem start_of_pure {p : Program} {e : Env} {s : State} {m : MethodId} {below : List Frame} {meth : Method} {c : Code} (l : Launch) {b L : Nat} {xs : Nat → Int32} (hp : wp_Law_law L xs (fun _ => True)) (C0 : lw_At p s m meth c b L xs) : W p l e room_1 s m #[Value.ref b] below meth c s.heap [] 0 0 (lw_Z below #[Value.ref b] s) (entryFrame m ([Value.ref b] : List Value).toArray 4) := by
  obtain ⟨hx, hb, hr, hml, hown, hts0, hX, hbl, hlocks, hgv⟩ := C0
  have hts : ∀ w ∈ tb, w.before #[Value.ref b] s = true := hts_all hts0
  obtain ⟨dC, dI, hK⟩ := kn_all hts
  exact law_body l hx hb hr hml hown hts hX hbl hlocks dC dI hK (gb_start hts0 hgv) _ hp
