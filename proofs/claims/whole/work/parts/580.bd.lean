/-! bounds: what is in goods, tills and wealth -/
def sm : Nat → (Nat → Nat) → Nat
  | 0, _ => 0
  | n + 1, f => sm n f + f n
theorem sm_congr {f g : Nat → Nat} : ∀ {n : Nat}, (∀ s, s < n → f s = g s) → sm n f = sm n g
  | 0, _ => rfl
  | n + 1, h => by unfold sm; rw [sm_congr (n := n) (fun s hs => h s (by omega)), h n (by omega)]
theorem sm_add {f g : Nat → Nat} : ∀ {n : Nat}, sm n (fun s => f s + g s) = sm n f + sm n g
  | 0 => rfl
  | n + 1 => by
    show sm n (fun s => f s + g s) + (f n + g n) = (sm n f + f n) + (sm n g + g n)
    rw [sm_add (n := n)]; omega
theorem sm_zero : ∀ {n : Nat}, sm n (fun _ => 0) = 0
  | 0 => rfl
  | n + 1 => by
    show sm n (fun _ => 0) + 0 = 0
    rw [sm_zero]
theorem sm_one {c t : Nat} : ∀ {n : Nat}, t < n → sm n (fun s => if s = t then c else 0) = c
  | 0, h => by omega
  | n + 1, h => by
    show sm n (fun s => if s = t then c else 0) + (if n = t then c else 0) = c
    by_cases e : n = t
    · subst e
      rw [if_pos rfl, sm_congr (g := fun _ => 0) (fun s hs => if_neg (by omega)), sm_zero, Nat.zero_add]
    · rw [if_neg e, sm_one (n := n) (by omega), Nat.add_zero]
theorem sm_le {f : Nat → Nat} {t : Nat} : ∀ {n : Nat}, t < n → f t ≤ sm n f
  | 0, h => by omega
  | n + 1, h => by
    unfold sm
    by_cases e : t = n
    · subst e; omega
    · have := sm_le (f := f) (t := t) (n := n) (by omega); omega
theorem sm_mono {f g : Nat → Nat} : ∀ {n : Nat}, (∀ s, s < n → f s ≤ g s) → sm n f ≤ sm n g
  | 0, _ => Nat.le_refl _
  | n + 1, h => by unfold sm; have := sm_mono (n := n) (fun s hs => h s (by omega)); have := h n (by omega); omega
theorem sm_comm {F : Nat → Nat → Nat} {m : Nat} : ∀ {n : Nat}, sm n (fun s => sm m (fun t => F s t)) = sm m (fun t => sm n (fun s => F s t))
  | 0 => sm_zero.symm
  | n + 1 => by
    show sm n (fun s => sm m (fun t => F s t)) + sm m (fun t => F n t) = sm m (fun t => sm n (fun s => F s t) + F n t)
    rw [sm_comm (n := n), sm_add]
theorem sm_perm {N : Nat} {f f' g : Nat → Nat} (h : ∀ s, s < N → f s < N ∧ f' s < N ∧ f' (f s) = s ∧ f (f' s) = s) : sm N (fun s => g (f s)) = sm N g := by
  have h1 : sm N (fun s => g (f s)) = sm N (fun s => sm N (fun t => if t = f s then g t else 0)) := by
    refine sm_congr (fun s hs => ?_)
    rw [sm_congr (n := N) (g := fun t => if t = f s then g (f s) else 0) (fun t _ => by
      by_cases e : t = f s
      · rw [if_pos e, if_pos e, e]
      · rw [if_neg e, if_neg e]), sm_one (h s hs).1]
  rw [h1, sm_comm]
  refine sm_congr (fun t ht => ?_)
  rw [sm_congr (n := N) (g := fun s => if s = f' t then g t else 0) (fun s hs => by
    by_cases e : t = f s
    · rw [if_pos e, if_pos (by rw [e, (h s hs).2.2.1])]
    · rw [if_neg e, if_neg (fun e2 => e (by rw [e2, (h t ht).2.2.2]))]), sm_one (h t ht).2.1]
section bd
variable {ru : Option RU} {N B L : Nat} {rg pl : Nat → Nat} {ac : Nat → Bool} {d : Nat → Int32} {b s : Nat}
/-- bounds, by a potential: what is in tills and wealth, and forty for each of the goods -/
def bdR (N : Nat) (d : Nat → Int32) : Prop := ∃ (T W G : Nat → Nat) (K : Nat), K ≤ 9 ∧ d 2 = nn K ∧ (∀ s, s < N → d (11 + 4 * s) = nn (G s) ∧ d (11 + 4 * s + 2) = nn (T s) ∧ d (11 + 4 * s + 3) = nn (W s)) ∧ sm N (fun s => T s + W s + 40 * G s) ≤ 4800
theorem bd_one {T W G : Nat → Nat} (h : sm N (fun s => T s + W s + 40 * G s) ≤ 4800) (hs : s < N) : T s + W s + 40 * G s ≤ 4800 := Nat.le_trans (sm_le (f := fun s => T s + W s + 40 * G s) hs) h
theorem bd_buy (hb : bdR N d) (hp : prR N d) (hr : rOK N rg pl) (hN : N ≤ 6) (hs : s < N) (hb6 : b < 6) (hc : cnS d b s = true) : bdR N (buyD N rg pl d b s) := by
  obtain ⟨T, W, G, K, hK, h2, hv, hsum⟩ := hb
  obtain ⟨p, hp1, hp2, ep⟩ := hp s hs
  have hsl := slr_lt hr hs
  have hG : 1 ≤ G s := by
    unfold cnS at hc
    simp only [Bool.and_eq_true, decide_eq_true_eq] at hc
    have h1 := hc.1
    have := bd_one hsum hs
    rw [(hv s hs).1, nn_lt (by omega) (by omega)] at h1
    omega
  refine ⟨fun t => T t + (if t = slr N rg pl s then p else 0), W, fun t => if t = s then G s - 1 else G t, K, hK, ?_, fun t ht => ⟨?_, ?_, ?_⟩, ?_⟩
  · rw [buyD_o hN hr hs hb6 (by omega), h2]
  · rw [buyD_0 hr hN hs hb6 (by omega)]
    show _ = nn (if t = s then G s - 1 else G t)
    by_cases e : t = s
    · subst e; rw [upd_s, if_pos rfl, (hv t ht).1, nn_sub hG (by have := bd_one hsum ht; omega)]
    · rw [upd_o e, if_neg e]; exact (hv t ht).1
  · rw [buyD_2 hr hN hs hb6 (by omega)]
    show _ = nn (T t + (if t = slr N rg pl s then p else 0))
    by_cases e : t = slr N rg pl s
    · subst e; rw [upd_s, if_pos rfl, (hv _ ht).2.1, ep, nn_add]
    · rw [upd_o e, if_neg e]; exact (hv t ht).2.1
  · rw [buyD_3 hr hN hs hb6 (by omega)]; exact (hv t ht).2.2
  · have e1 : sm N (fun t => (T t + (if t = slr N rg pl s then p else 0) + W t + 40 * (if t = s then G s - 1 else G t)) + (if t = s then 40 else 0)) = sm N (fun t => (T t + W t + 40 * G t) + (if t = slr N rg pl s then p else 0)) := by
      refine sm_congr (fun t ht => ?_)
      by_cases e : t = s
      · subst e; simp only [if_true]; omega
      · simp only [if_neg e]; omega
    rw [sm_add (f := fun t => T t + (if t = slr N rg pl s then p else 0) + W t + 40 * (if t = s then G s - 1 else G t)), sm_add (f := fun t => T t + W t + 40 * G t), sm_one hs, sm_one hsl] at e1
    show sm N (fun t => T t + (if t = slr N rg pl s then p else 0) + W t + 40 * (if t = s then G s - 1 else G t)) ≤ 4800
    omega
theorem kp_val {T K : Nat} (hT : T ≤ 4800) (hK : K ≤ 9) (h1 : d (11 + 4 * s + 2) = nn T) (h2 : d 2 = nn K) : kpS d s = nn (T * K / 10) ∧ T * K / 10 ≤ T := by
  have h3 : T * K ≤ 4800 * 9 := Nat.mul_le_mul hT hK
  have h4 : T * K ≤ T * 9 := Nat.mul_le_mul_left T hK
  unfold kpS
  rw [h1, h2, nn_mul, nn_div (by omega) (by omega) (by omega)]
  exact ⟨rfl, by omega⟩
theorem bd_dsk (hb : bdR N d) (hr : rOK N rg pl) (hN : N ≤ 6) : bdR N (dskD N rg pl d) := by
  obtain ⟨T, W, G, K, hK, h2, hv, hsum⟩ := hb
  have hT : ∀ t, t < N → T t ≤ 4800 := fun t ht => by have := bd_one hsum ht; omega
  have kv := fun t (ht : t < N) => kp_val (s := t) (hT t ht) hK (hv t ht).2.1 h2
  refine ⟨fun _ => 0, fun t => W t + (T t * K / 10 + (T (slr N rg pl t) - T (slr N rg pl t) * K / 10)), G, K, hK, ?_, fun t ht => ⟨?_, ?_, ?_⟩, ?_⟩
  · rw [dskD_o (by omega), h2]
  · exact (dskD_01 (r := 0) ht (by omega)).trans (hv t ht).1
  · rw [dskD_2 ht]
  · have hsl := slr_lt hr ht
    rw [dskD_3 ht, (hv t ht).2.2, (kv t ht).1, (hv _ hsl).2.1, (kv _ hsl).1, nn_sub (kv _ hsl).2 (by have := hT _ hsl; omega), nn_add, nn_add]
  · have e0 : sm N (fun t => T (slr N rg pl t) - T (slr N rg pl t) * K / 10) = sm N (fun t => T t - T t * K / 10) := sm_perm (g := fun t => T t - T t * K / 10) (f' := bhd N rg pl) (fun t ht => ⟨slr_lt hr ht, bhd_lt hr ht, bhd_slr hr ht, slr_bhd hr ht⟩)
    have e1 : sm N (fun t => 0 + (W t + (T t * K / 10 + (T (slr N rg pl t) - T (slr N rg pl t) * K / 10))) + 40 * G t) = sm N (fun t => (W t + T t * K / 10 + 40 * G t) + (T (slr N rg pl t) - T (slr N rg pl t) * K / 10)) := sm_congr (fun t _ => by omega)
    have e2 : sm N (fun t => T t + W t + 40 * G t) = sm N (fun t => (W t + T t * K / 10 + 40 * G t) + (T t - T t * K / 10)) := sm_congr (fun t ht => by have := (kv t ht).2; omega)
    rw [e1, sm_add, e0, ← sm_add, ← e2]
    exact hsum
theorem bd_10 {v : Int32} (hN : N ≤ 6) (hb : bdR N d) : bdR N (upd d 10 v) := by
  obtain ⟨T, W, G, K, hK, h2, hv, hsum⟩ := hb
  refine ⟨T, W, G, K, hK, ?_, fun t ht => ⟨?_, ?_, ?_⟩, hsum⟩
  · rw [upd_o (by omega), h2]
  · rw [upd_o (by omega)]; exact (hv t ht).1
  · rw [upd_o (by omega)]; exact (hv t ht).2.1
  · rw [upd_o (by omega)]; exact (hv t ht).2.2
theorem bd_cls (hb : bdR N d) (hr : rOK N rg pl) (hN : N ≤ 6) : bdR N (clsD N rg pl d) := by
  unfold clsD
  split
  · exact bd_10 hN (bd_dsk hb hr hN)
  · exact bd_10 hN hb
theorem chS_can {can : Nat → Bool} {w : Nat → Int64} : ∀ (k s : Nat) (o : Option Nat) (m : Int64), (∀ x, o = some x → can x = true) → ∀ x, chS can w k s o m = some x → can x = true
  | 0, _, _, _, h, x, hx => h x hx
  | k + 1, s, o, m, h, x, hx => by
    unfold chS at hx
    split at hx
    · rename_i hc
      split at hx
      · exact chS_can k (s + 1) (some s) _ (fun y hy => by cases hy; exact hc) x hx
      · exact chS_can k (s + 1) o m h x hx
    · exact chS_can k (s + 1) o m h x hx
theorem bd_tr (hr : rOK N rg pl) (hN : N ≤ 6) : ∀ (k b : Nat) (d : Nat → Int32) (p : Int32), b + k ≤ 6 → bdR N d → prR N d → bdR N (trS ru N rg pl ac k b d p).1 ∧ prR N (trS ru N rg pl ac k b d p).1
  | 0, _, _, _, _, h1, h2 => ⟨h1, h2⟩
  | k + 1, b, d, p, hb, h1, h2 => by
    unfold trS
    split
    · exact bd_tr hr hN k (b + 1) d p (by omega) h1 h2
    · rename_i s hs
      have hs' : s < N ∧ cnS d b s = true := by
        split at hs
        · exact ⟨pick_lt hs, chS_can N 0 none 0 (fun x hx => by cases hx) s hs⟩
        · cases hs
      exact bd_tr hr hN k (b + 1) _ _ (by omega) (bd_buy h1 h2 hr hN hs'.1 (by omega) hs'.2) (prR_buy h2 hr hN hs'.1 (by omega))
theorem bd_min (hb : bdR N d) (hp : prR N d) (hr : rOK N rg pl) (hN : N ≤ 6) (hB : B ≤ 6) : bdR N (minS ru N rg pl ac B d).1 ∧ prR N (minS ru N rg pl ac B d).1 := by
  have h := bd_tr (ru := ru) (ac := ac) hr hN B 0 d (nn 0) (by omega) hb hp
  exact ⟨bd_cls h.1 hr hN, pr_tEq2 (tEq_cls hN) hN h.2⟩
theorem bd_mins (hr : rOK N rg pl) (hN : N ≤ 6) (hB : B ≤ 6) : ∀ (k : Nat) (d : Nat → Int32) (p : Int32), bdR N d → prR N d → bdR N (minsS ru N rg pl ac B k d p).1 ∧ prR N (minsS ru N rg pl ac B k d p).1
  | 0, _, _, h1, h2 => ⟨h1, h2⟩
  | k + 1, d, p, h1, h2 => by
    have h := bd_min (ru := ru) (ac := ac) h1 h2 hr hN hB
    exact bd_mins hr hN hB k _ _ h.1 h.2
end bd
