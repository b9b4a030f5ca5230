/-! Constructors with rows of references: getfield, aastore, another function for the same row -/
theorem arrV_eq {cA : ClassId} {N : Nat} {f g : Nat → Value} (h : ∀ j, j < N → f j = g j) : arrV cA N f = arrV cA N g := by
  unfold arrV
  have e : (fun j : Fin N => f j.val) = fun j : Fin N => g j.val := funext fun j => h j.val j.isLt
  rw [e]
section RN2
variable {l : Launch} {D : va_G} {Z : (Nat → Nat) × (Nat → Nat)} {K : Nat → ClassId} {M : rx_M} {pc : Nat} {lv lv' : List (Nat × Value)} {st : List Value} {ws : va_W} {bs bs1 : List va_W} {b b2 : va_W} {cells slots : Nat} {Po : va_W → Prop} {mc ms : Nat}
theorem n_get (i j ci k : Nat) {C : String} {T : u_T} {N index a : Nat} {fs : List Value} {x : Value} (hin : ∀ w ∈ u_ws C T N, w ∈ TB) (hc : vwCl[ci]? = some (C, T, N)) (hk : k < N) (hw : Cond.fieldLink M.1 index (T k).1 (T k).2.1 (T k).2.2.1 ∈ TB) (hb : bs[i]? = some b) (hq : b[j]? = some (a, .inr (ci, fs))) (hv : fs[k]? = some x) (hdg : decode M.2.2.1 pc = .ok (.getfield index, 3)) (kk : rN l D Z K M (pc + 3) lv (x :: st) bs.flatten cells slots Po mc ms) : rN l D Z K M pc lv (.ref a :: st) bs.flatten cells slots Po mc ms := by
  obtain ⟨q0, g1, -⟩ := fl_at hb hq
  intro p e s m args below meth c A C0 hi ho H locs ls hP hD hS hl
  exact va_get C0.1 C0.2.1 C0.2.2.2.2.2.1 (fun w h => List.mem_cons_of_mem _ (hin w h)) C0.2.2.2.2.1 C0.2.2.2.2.2.2.2.1 hP q0 g1 hc k hk (C0.2.2.2.2.2.1 _ (List.mem_cons_of_mem _ hw)) (fun _ h => h) hv hdg (kk p e s m args below meth c A C0 hi ho H locs ls hP hD hS hl)
theorem n_ast (i0 j0 i1 j1 t ci : Nat) {a v n : Nat} {r : vw_C} {cA : ClassId} {vs : List Value} {f g : Nat → Option Nat} {x : Int32} (ht : (ty7 K)[t]? = some (cA, .object r.1)) (hc : vwCl[ci]? = some r) (hb : bs[i0]? = some b) (hq : b[j0]? = some (a, .inl (cA, n, .inr (.inr (.inr (.inr f)))))) (hb2 : bs[i1]? = some b2) (hq2 : b2[j1]? = some (v, .inr (ci, vs))) (hx : vp_in x n) (hg : va_up f x.toNatClampNeg (some v) = g) (h1 : bs.set i0 (b.set j0 (a, .inl (cA, n, .inr (.inr (.inr (.inr g)))))) = bs1) (hdg : decode M.2.2.1 pc = .ok (.aastore, 1)) (kk : rN l D Z K M (pc + 1) lv st bs1.flatten cells slots Po mc ms) : rN l D Z K M pc lv (.ref v :: .int x :: .ref a :: st) bs.flatten cells slots Po mc ms := by
  obtain ⟨q0, g1, g2⟩ := fl_at hb hq
  obtain ⟨q1, g3, -⟩ := fl_at hb2 hq2
  intro p e s m args below meth c A C0 hi ho H locs ls hP hD hS hl
  refine va_astq C0.1 C0.2.1 C0.2.2.2.2.2.2.2.1 hP hD hS q0 t q1 ci g1 ht g3 hc hx hdg (fun H1 locs1 hP hD hS => ?_)
  rw [hg, g2, h1] at hP hD
  exact kk p e s m args below meth c A C0 hi ho H1 locs1 ls hP hD hS hl
theorem n_row (i j : Nat) {a n : Nat} {cA : ClassId} {f g : Nat → Option Nat} (hb : bs[i]? = some b) (hq : b[j]? = some (a, .inl (cA, n, .inr (.inr (.inr (.inr f)))))) (hfg : ∀ k, k < n → f k = g k) (h1 : bs.set i (b.set j (a, .inl (cA, n, .inr (.inr (.inr (.inr g)))))) = bs1) (kk : rN l D Z K M pc lv st bs1.flatten cells slots Po mc ms) : rN l D Z K M pc lv st bs.flatten cells slots Po mc ms := by
  obtain ⟨q0, g1, g2⟩ := fl_at hb hq
  intro p e s m args below meth c A C0 hi ho H locs ls hP hD hS hl
  have h2 : va_at D vwCl (a, .inl (cA, n, .inr (.inr (.inr (.inr g))))) H := by
    have h3 := hP q0 _ g1
    show H[a]? = some (vp_cell cA (n, .inr (.inr (.inr (.inr g)))))
    have h4 : H[a]? = some (vp_cell cA (n, .inr (.inr (.inr (.inr f))))) := h3
    rw [h4, vp_cell_q, vp_cell_q, arrV_eq (f := fun j => va_rf (f j)) (g := fun j => va_rf (g j)) (fun j hj => by rw [hfg j hj])]
  have hP' := hP.set hD g1 h2 (fun _ _ => rfl)
  have hD' := hD.set (e := .inl (cA, n, .inr (.inr (.inr (.inr g))))) g1
  rw [g2, h1] at hP' hD'
  exact kk p e s m args below meth c A C0 hi ho H locs ls hP' hD' hS hl
end RN2
