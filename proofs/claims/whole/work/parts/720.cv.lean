/-! contracts over the law's blocks -/
section CV
variable {l : Launch} {D : va_G} {Z : (Nat → Nat) × (Nat → Nat)} {tys : List (ClassId × FieldType)} {M : rx_M} {av : List Value} {v : Option Value} {X X1 F F1 G G1 : List va_W} {w w1 : va_W}
theorem lvM (h : rMet l D Z tys M av w w1 v) : rMet l D Z tys M av (List.flatten [w]) (List.flatten [w1]) v := by
  rw [show List.flatten [w] = w by simp, show List.flatten [w1] = w1 by simp]; exact h
theorem lv0 (h : rMet l D Z tys M av (List.flatten X) (List.flatten X1) v) : rMet l D Z tys M av (List.flatten [List.flatten X]) (List.flatten [List.flatten X1]) v := lvM h
theorem lv4 (h : rMet l D Z tys M av (List.flatten (X ++ F)) (List.flatten (X1 ++ F1)) v) : rMet l D Z tys M av (List.flatten [List.flatten X, List.flatten F]) (List.flatten [List.flatten X1, List.flatten F1]) v := by
  rw [List.flatten_append, List.flatten_append] at h
  rw [show List.flatten [List.flatten X, List.flatten F] = X.flatten ++ F.flatten by simp, show List.flatten [List.flatten X1, List.flatten F1] = X1.flatten ++ F1.flatten by simp]; exact h
theorem lv1 (h : rMet l D Z tys M av (List.flatten (X ++ (F ++ []))) (List.flatten (X1 ++ (F1 ++ []))) v) : rMet l D Z tys M av (List.flatten [List.flatten X, List.flatten F]) (List.flatten [List.flatten X1, List.flatten F1]) v := by
  rw [List.append_nil, List.append_nil] at h; exact lv4 h
theorem lv2 (h : rMet l D Z tys M av (List.flatten (X ++ (F ++ (G ++ [])))) (List.flatten (X1 ++ (F1 ++ (G1 ++ [])))) v) : rMet l D Z tys M av (List.flatten [List.flatten X, List.flatten F, List.flatten G]) (List.flatten [List.flatten X1, List.flatten F1, List.flatten G1]) v := by
  rw [List.append_nil, List.append_nil, List.flatten_append, List.flatten_append, List.flatten_append, List.flatten_append] at h
  rw [show List.flatten [List.flatten X, List.flatten F, List.flatten G] = X.flatten ++ (F.flatten ++ G.flatten) by simp, show List.flatten [List.flatten X1, List.flatten F1, List.flatten G1] = X1.flatten ++ (F1.flatten ++ G1.flatten) by simp]; exact h
end CV
