theorem kp_as {D : va_G} {cl : List vw_C} {a b c : va_W} {H : Heap} (h : va_P D cl (a ++ (b ++ c)) H) : va_P D cl ((a ++ b) ++ c) H := by rw [List.append_assoc]; exact h
theorem kp_sa {D : va_G} {cl : List vw_C} {a b c : va_W} {H : Heap} (h : va_P D cl ((a ++ b) ++ c) H) : va_P D cl (a ++ (b ++ c)) H := by rw [List.append_assoc] at h; exact h
theorem kd_as {A : Nat → Prop} {a b c : va_W} (h : va_D A (a ++ (b ++ c))) : va_D A ((a ++ b) ++ c) := by rw [List.append_assoc]; exact h
theorem kd_sa {A : Nat → Prop} {a b c : va_W} (h : va_D A ((a ++ b) ++ c)) : va_D A (a ++ (b ++ c)) := by rw [List.append_assoc] at h; exact h
