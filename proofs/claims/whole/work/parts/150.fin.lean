
/-- the memory as the constructors leave it -/
def mm_s0 : mm_M := fun i q => if mm_kd i = 15 then (if q = 0 then -1 else 0) else if mm_kd i = 19 then (if 6 ≤ q then -1 else 0) else 0
def kF (G : mm_G) (τ : Nat → va_E) : Nat → va_E := va_up (va_up (va_up (va_up (va_up (va_up (va_up (va_up (va_up (va_up (va_up (va_up (va_up (va_up (va_up (va_up (va_up (va_up (va_up (va_up (va_up (va_up (va_up (va_up (va_up (va_up (va_up (va_up (va_up (va_up (va_up (va_up (va_up (va_up (va_up (va_up (va_up (va_up (va_up (va_up (va_up (va_up (va_up (va_up (va_up (va_up (va_up (va_up (va_up (va_up (va_up (va_up (va_up (va_up (va_up (va_up (va_up (va_up (va_up (va_up (va_up (va_up (va_up (va_up (va_up (va_up (va_up (va_up (va_up (va_up (va_up (kT G (va_up τ 0 (.inr (10, [.null, .null, .null, .null, .null, .null, .null, .null, .null, .null])))) 211 (.inr (11, [.null, .int 0, .int 0, .int 0, .int 0, .long 0, .int 0, .null, .int 0, .null, .null, .null, .int 0, .null, .int 0, .null, .int 0, .int 0, .int 0, .int 0, .int 0, .null, .null, .null, .int 0, .null, .null, .null, .int 0, .null, .null, .null, .null, .null, .null, .int 0, .null, .long 0, .int 0, .null, .null, .null, .null, .null, .int 0, .null, .int 0, .null, .null, .null, .null, .int 0, .null, .null, .int 0, .int 0, .null, .null, .null, .int 0, .int 0, .int 0, .int 0, .int 0, .int 0]))) 212 (.inl (G.2.1 1, 500, .inl (fun _ => 0)))) 211 (.inr (11, [.ref (mm_ad G 212), .int 0, .int 0, .int 0, .int 0, .long 0, .int 0, .null, .int 0, .null, .null, .null, .int 0, .null, .int 0, .null, .int 0, .int 0, .int 0, .int 0, .int 0, .null, .null, .null, .int 0, .null, .null, .null, .int 0, .null, .null, .null, .null, .null, .null, .int 0, .null, .long 0, .int 0, .null, .null, .null, .null, .null, .int 0, .null, .int 0, .null, .null, .null, .null, .int 0, .null, .null, .int 0, .int 0, .null, .null, .null, .int 0, .int 0, .int 0, .int 0, .int 0, .int 0]))) 213 (.inl (G.2.1 0, 9, .inl (fun _ => 0)))) 211 (.inr (11, [.ref (mm_ad G 212), .int 0, .int 0, .int 0, .int 0, .long 0, .int 0, .ref (mm_ad G 213), .int 0, .null, .null, .null, .int 0, .null, .int 0, .null, .int 0, .int 0, .int 0, .int 0, .int 0, .null, .null, .null, .int 0, .null, .null, .null, .int 0, .null, .null, .null, .null, .null, .null, .int 0, .null, .long 0, .int 0, .null, .null, .null, .null, .null, .int 0, .null, .int 0, .null, .null, .null, .null, .int 0, .null, .null, .int 0, .int 0, .null, .null, .null, .int 0, .int 0, .int 0, .int 0, .int 0, .int 0]))) 214 (.inl (G.2.1 3, 5, .inr (.inl (fun _ => 0))))) 211 (.inr (11, [.ref (mm_ad G 212), .int 0, .int 0, .int 0, .int 0, .long 0, .int 0, .ref (mm_ad G 213), .int 0, .ref (mm_ad G 214), .null, .null, .int 0, .null, .int 0, .null, .int 0, .int 0, .int 0, .int 0, .int 0, .null, .null, .null, .int 0, .null, .null, .null, .int 0, .null, .null, .null, .null, .null, .null, .int 0, .null, .long 0, .int 0, .null, .null, .null, .null, .null, .int 0, .null, .int 0, .null, .null, .null, .null, .int 0, .null, .null, .int 0, .int 0, .null, .null, .null, .int 0, .int 0, .int 0, .int 0, .int 0, .int 0]))) 215 (.inl (G.2.1 0, 30, .inl (fun _ => 0)))) 211 (.inr (11, [.ref (mm_ad G 212), .int 0, .int 0, .int 0, .int 0, .long 0, .int 0, .ref (mm_ad G 213), .int 0, .ref (mm_ad G 214), .ref (mm_ad G 215), .null, .int 0, .null, .int 0, .null, .int 0, .int 0, .int 0, .int 0, .int 0, .null, .null, .null, .int 0, .null, .null, .null, .int 0, .null, .null, .null, .null, .null, .null, .int 0, .null, .long 0, .int 0, .null, .null, .null, .null, .null, .int 0, .null, .int 0, .null, .null, .null, .null, .int 0, .null, .null, .int 0, .int 0, .null, .null, .null, .int 0, .int 0, .int 0, .int 0, .int 0, .int 0]))) 216 (.inl (G.2.1 0, 3, .inl (fun _ => 0)))) 211 (.inr (11, [.ref (mm_ad G 212), .int 0, .int 0, .int 0, .int 0, .long 0, .int 0, .ref (mm_ad G 213), .int 0, .ref (mm_ad G 214), .ref (mm_ad G 215), .ref (mm_ad G 216), .int 0, .null, .int 0, .null, .int 0, .int 0, .int 0, .int 0, .int 0, .null, .null, .null, .int 0, .null, .null, .null, .int 0, .null, .null, .null, .null, .null, .null, .int 0, .null, .long 0, .int 0, .null, .null, .null, .null, .null, .int 0, .null, .int 0, .null, .null, .null, .null, .int 0, .null, .null, .int 0, .int 0, .null, .null, .null, .int 0, .int 0, .int 0, .int 0, .int 0, .int 0]))) 217 (.inl (G.2.1 0, 9, .inl (fun _ => 0)))) 211 (.inr (11, [.ref (mm_ad G 212), .int 0, .int 0, .int 0, .int 0, .long 0, .int 0, .ref (mm_ad G 213), .int 0, .ref (mm_ad G 214), .ref (mm_ad G 215), .ref (mm_ad G 216), .int 0, .ref (mm_ad G 217), .int 0, .null, .int 0, .int 0, .int 0, .int 0, .int 0, .null, .null, .null, .int 0, .null, .null, .null, .int 0, .null, .null, .null, .null, .null, .null, .int 0, .null, .long 0, .int 0, .null, .null, .null, .null, .null, .int 0, .null, .int 0, .null, .null, .null, .null, .int 0, .null, .null, .int 0, .int 0, .null, .null, .null, .int 0, .int 0, .int 0, .int 0, .int 0, .int 0]))) 218 (.inl (G.2.1 0, 30, .inl (fun _ => 0)))) 211 (.inr (11, [.ref (mm_ad G 212), .int 0, .int 0, .int 0, .int 0, .long 0, .int 0, .ref (mm_ad G 213), .int 0, .ref (mm_ad G 214), .ref (mm_ad G 215), .ref (mm_ad G 216), .int 0, .ref (mm_ad G 217), .int 0, .ref (mm_ad G 218), .int 0, .int 0, .int 0, .int 0, .int 0, .null, .null, .null, .int 0, .null, .null, .null, .int 0, .null, .null, .null, .null, .null, .null, .int 0, .null, .long 0, .int 0, .null, .null, .null, .null, .null, .int 0, .null, .int 0, .null, .null, .null, .null, .int 0, .null, .null, .int 0, .int 0, .null, .null, .null, .int 0, .int 0, .int 0, .int 0, .int 0, .int 0]))) 219 (.inl (G.2.1 0, 1200, .inl (fun _ => 0)))) 211 (.inr (11, [.ref (mm_ad G 212), .int 0, .int 0, .int 0, .int 0, .long 0, .int 0, .ref (mm_ad G 213), .int 0, .ref (mm_ad G 214), .ref (mm_ad G 215), .ref (mm_ad G 216), .int 0, .ref (mm_ad G 217), .int 0, .ref (mm_ad G 218), .int 0, .int 0, .int 0, .int 0, .int 0, .ref (mm_ad G 219), .null, .null, .int 0, .null, .null, .null, .int 0, .null, .null, .null, .null, .null, .null, .int 0, .null, .long 0, .int 0, .null, .null, .null, .null, .null, .int 0, .null, .int 0, .null, .null, .null, .null, .int 0, .null, .null, .int 0, .int 0, .null, .null, .null, .int 0, .int 0, .int 0, .int 0, .int 0, .int 0]))) 220 (.inl (G.2.1 0, 6, .inl (fun _ => 0)))) 211 (.inr (11, [.ref (mm_ad G 212), .int 0, .int 0, .int 0, .int 0, .long 0, .int 0, .ref (mm_ad G 213), .int 0, .ref (mm_ad G 214), .ref (mm_ad G 215), .ref (mm_ad G 216), .int 0, .ref (mm_ad G 217), .int 0, .ref (mm_ad G 218), .int 0, .int 0, .int 0, .int 0, .int 0, .ref (mm_ad G 219), .ref (mm_ad G 220), .null, .int 0, .null, .null, .null, .int 0, .null, .null, .null, .null, .null, .null, .int 0, .null, .long 0, .int 0, .null, .null, .null, .null, .null, .int 0, .null, .int 0, .null, .null, .null, .null, .int 0, .null, .null, .int 0, .int 0, .null, .null, .null, .int 0, .int 0, .int 0, .int 0, .int 0, .int 0]))) 221 (.inl (G.2.1 2, 5, .inl (fun _ => 0)))) 211 (.inr (11, [.ref (mm_ad G 212), .int 0, .int 0, .int 0, .int 0, .long 0, .int 0, .ref (mm_ad G 213), .int 0, .ref (mm_ad G 214), .ref (mm_ad G 215), .ref (mm_ad G 216), .int 0, .ref (mm_ad G 217), .int 0, .ref (mm_ad G 218), .int 0, .int 0, .int 0, .int 0, .int 0, .ref (mm_ad G 219), .ref (mm_ad G 220), .ref (mm_ad G 221), .int 0, .null, .null, .null, .int 0, .null, .null, .null, .null, .null, .null, .int 0, .null, .long 0, .int 0, .null, .null, .null, .null, .null, .int 0, .null, .int 0, .null, .null, .null, .null, .int 0, .null, .null, .int 0, .int 0, .null, .null, .null, .int 0, .int 0, .int 0, .int 0, .int 0, .int 0]))) 222 (.inl (G.2.1 0, 1200, .inl (fun _ => 0)))) 211 (.inr (11, [.ref (mm_ad G 212), .int 0, .int 0, .int 0, .int 0, .long 0, .int 0, .ref (mm_ad G 213), .int 0, .ref (mm_ad G 214), .ref (mm_ad G 215), .ref (mm_ad G 216), .int 0, .ref (mm_ad G 217), .int 0, .ref (mm_ad G 218), .int 0, .int 0, .int 0, .int 0, .int 0, .ref (mm_ad G 219), .ref (mm_ad G 220), .ref (mm_ad G 221), .int 0, .ref (mm_ad G 222), .null, .null, .int 0, .null, .null, .null, .null, .null, .null, .int 0, .null, .long 0, .int 0, .null, .null, .null, .null, .null, .int 0, .null, .int 0, .null, .null, .null, .null, .int 0, .null, .null, .int 0, .int 0, .null, .null, .null, .int 0, .int 0, .int 0, .int 0, .int 0, .int 0]))) 223 (.inl (G.2.1 0, 6, .inl (fun _ => 0)))) 211 (.inr (11, [.ref (mm_ad G 212), .int 0, .int 0, .int 0, .int 0, .long 0, .int 0, .ref (mm_ad G 213), .int 0, .ref (mm_ad G 214), .ref (mm_ad G 215), .ref (mm_ad G 216), .int 0, .ref (mm_ad G 217), .int 0, .ref (mm_ad G 218), .int 0, .int 0, .int 0, .int 0, .int 0, .ref (mm_ad G 219), .ref (mm_ad G 220), .ref (mm_ad G 221), .int 0, .ref (mm_ad G 222), .ref (mm_ad G 223), .null, .int 0, .null, .null, .null, .null, .null, .null, .int 0, .null, .long 0, .int 0, .null, .null, .null, .null, .null, .int 0, .null, .int 0, .null, .null, .null, .null, .int 0, .null, .null, .int 0, .int 0, .null, .null, .null, .int 0, .int 0, .int 0, .int 0, .int 0, .int 0]))) 224 (.inl (G.2.1 2, 5, .inl (fun _ => 0)))) 211 (.inr (11, [.ref (mm_ad G 212), .int 0, .int 0, .int 0, .int 0, .long 0, .int 0, .ref (mm_ad G 213), .int 0, .ref (mm_ad G 214), .ref (mm_ad G 215), .ref (mm_ad G 216), .int 0, .ref (mm_ad G 217), .int 0, .ref (mm_ad G 218), .int 0, .int 0, .int 0, .int 0, .int 0, .ref (mm_ad G 219), .ref (mm_ad G 220), .ref (mm_ad G 221), .int 0, .ref (mm_ad G 222), .ref (mm_ad G 223), .ref (mm_ad G 224), .int 0, .null, .null, .null, .null, .null, .null, .int 0, .null, .long 0, .int 0, .null, .null, .null, .null, .null, .int 0, .null, .int 0, .null, .null, .null, .null, .int 0, .null, .null, .int 0, .int 0, .null, .null, .null, .int 0, .int 0, .int 0, .int 0, .int 0, .int 0]))) 225 (.inl (G.2.1 0, 3, .inl (fun _ => 0)))) 211 (.inr (11, [.ref (mm_ad G 212), .int 0, .int 0, .int 0, .int 0, .long 0, .int 0, .ref (mm_ad G 213), .int 0, .ref (mm_ad G 214), .ref (mm_ad G 215), .ref (mm_ad G 216), .int 0, .ref (mm_ad G 217), .int 0, .ref (mm_ad G 218), .int 0, .int 0, .int 0, .int 0, .int 0, .ref (mm_ad G 219), .ref (mm_ad G 220), .ref (mm_ad G 221), .int 0, .ref (mm_ad G 222), .ref (mm_ad G 223), .ref (mm_ad G 224), .int 0, .ref (mm_ad G 225), .null, .null, .null, .null, .null, .int 0, .null, .long 0, .int 0, .null, .null, .null, .null, .null, .int 0, .null, .int 0, .null, .null, .null, .null, .int 0, .null, .null, .int 0, .int 0, .null, .null, .null, .int 0, .int 0, .int 0, .int 0, .int 0, .int 0]))) 226 (.inl (G.2.1 0, 3, .inl (fun _ => 0)))) 211 (.inr (11, [.ref (mm_ad G 212), .int 0, .int 0, .int 0, .int 0, .long 0, .int 0, .ref (mm_ad G 213), .int 0, .ref (mm_ad G 214), .ref (mm_ad G 215), .ref (mm_ad G 216), .int 0, .ref (mm_ad G 217), .int 0, .ref (mm_ad G 218), .int 0, .int 0, .int 0, .int 0, .int 0, .ref (mm_ad G 219), .ref (mm_ad G 220), .ref (mm_ad G 221), .int 0, .ref (mm_ad G 222), .ref (mm_ad G 223), .ref (mm_ad G 224), .int 0, .ref (mm_ad G 225), .ref (mm_ad G 226), .null, .null, .null, .null, .int 0, .null, .long 0, .int 0, .null, .null, .null, .null, .null, .int 0, .null, .int 0, .null, .null, .null, .null, .int 0, .null, .null, .int 0, .int 0, .null, .null, .null, .int 0, .int 0, .int 0, .int 0, .int 0, .int 0]))) 227 (.inl (G.2.1 0, 3, .inl (fun _ => 0)))) 211 (.inr (11, [.ref (mm_ad G 212), .int 0, .int 0, .int 0, .int 0, .long 0, .int 0, .ref (mm_ad G 213), .int 0, .ref (mm_ad G 214), .ref (mm_ad G 215), .ref (mm_ad G 216), .int 0, .ref (mm_ad G 217), .int 0, .ref (mm_ad G 218), .int 0, .int 0, .int 0, .int 0, .int 0, .ref (mm_ad G 219), .ref (mm_ad G 220), .ref (mm_ad G 221), .int 0, .ref (mm_ad G 222), .ref (mm_ad G 223), .ref (mm_ad G 224), .int 0, .ref (mm_ad G 225), .ref (mm_ad G 226), .ref (mm_ad G 227), .null, .null, .null, .int 0, .null, .long 0, .int 0, .null, .null, .null, .null, .null, .int 0, .null, .int 0, .null, .null, .null, .null, .int 0, .null, .null, .int 0, .int 0, .null, .null, .null, .int 0, .int 0, .int 0, .int 0, .int 0, .int 0]))) 228 (.inl (G.2.1 0, 90, .inl (fun _ => 0)))) 211 (.inr (11, [.ref (mm_ad G 212), .int 0, .int 0, .int 0, .int 0, .long 0, .int 0, .ref (mm_ad G 213), .int 0, .ref (mm_ad G 214), .ref (mm_ad G 215), .ref (mm_ad G 216), .int 0, .ref (mm_ad G 217), .int 0, .ref (mm_ad G 218), .int 0, .int 0, .int 0, .int 0, .int 0, .ref (mm_ad G 219), .ref (mm_ad G 220), .ref (mm_ad G 221), .int 0, .ref (mm_ad G 222), .ref (mm_ad G 223), .ref (mm_ad G 224), .int 0, .ref (mm_ad G 225), .ref (mm_ad G 226), .ref (mm_ad G 227), .ref (mm_ad G 228), .null, .null, .int 0, .null, .long 0, .int 0, .null, .null, .null, .null, .null, .int 0, .null, .int 0, .null, .null, .null, .null, .int 0, .null, .null, .int 0, .int 0, .null, .null, .null, .int 0, .int 0, .int 0, .int 0, .int 0, .int 0]))) 229 (.inl (G.2.1 0, 210, .inl (fun _ => 0)))) 211 (.inr (11, [.ref (mm_ad G 212), .int 0, .int 0, .int 0, .int 0, .long 0, .int 0, .ref (mm_ad G 213), .int 0, .ref (mm_ad G 214), .ref (mm_ad G 215), .ref (mm_ad G 216), .int 0, .ref (mm_ad G 217), .int 0, .ref (mm_ad G 218), .int 0, .int 0, .int 0, .int 0, .int 0, .ref (mm_ad G 219), .ref (mm_ad G 220), .ref (mm_ad G 221), .int 0, .ref (mm_ad G 222), .ref (mm_ad G 223), .ref (mm_ad G 224), .int 0, .ref (mm_ad G 225), .ref (mm_ad G 226), .ref (mm_ad G 227), .ref (mm_ad G 228), .ref (mm_ad G 229), .null, .int 0, .null, .long 0, .int 0, .null, .null, .null, .null, .null, .int 0, .null, .int 0, .null, .null, .null, .null, .int 0, .null, .null, .int 0, .int 0, .null, .null, .null, .int 0, .int 0, .int 0, .int 0, .int 0, .int 0]))) 230 (.inl (G.2.1 0, 35, .inl (fun _ => 0)))) 211 (.inr (11, [.ref (mm_ad G 212), .int 0, .int 0, .int 0, .int 0, .long 0, .int 0, .ref (mm_ad G 213), .int 0, .ref (mm_ad G 214), .ref (mm_ad G 215), .ref (mm_ad G 216), .int 0, .ref (mm_ad G 217), .int 0, .ref (mm_ad G 218), .int 0, .int 0, .int 0, .int 0, .int 0, .ref (mm_ad G 219), .ref (mm_ad G 220), .ref (mm_ad G 221), .int 0, .ref (mm_ad G 222), .ref (mm_ad G 223), .ref (mm_ad G 224), .int 0, .ref (mm_ad G 225), .ref (mm_ad G 226), .ref (mm_ad G 227), .ref (mm_ad G 228), .ref (mm_ad G 229), .ref (mm_ad G 230), .int 0, .null, .long 0, .int 0, .null, .null, .null, .null, .null, .int 0, .null, .int 0, .null, .null, .null, .null, .int 0, .null, .null, .int 0, .int 0, .null, .null, .null, .int 0, .int 0, .int 0, .int 0, .int 0, .int 0]))) 231 (.inl (G.2.1 0, 100, .inl (fun _ => 0)))) 211 (.inr (11, [.ref (mm_ad G 212), .int 0, .int 0, .int 0, .int 0, .long 0, .int 0, .ref (mm_ad G 213), .int 0, .ref (mm_ad G 214), .ref (mm_ad G 215), .ref (mm_ad G 216), .int 0, .ref (mm_ad G 217), .int 0, .ref (mm_ad G 218), .int 0, .int 0, .int 0, .int 0, .int 0, .ref (mm_ad G 219), .ref (mm_ad G 220), .ref (mm_ad G 221), .int 0, .ref (mm_ad G 222), .ref (mm_ad G 223), .ref (mm_ad G 224), .int 0, .ref (mm_ad G 225), .ref (mm_ad G 226), .ref (mm_ad G 227), .ref (mm_ad G 228), .ref (mm_ad G 229), .ref (mm_ad G 230), .int 0, .ref (mm_ad G 231), .long 0, .int 0, .null, .null, .null, .null, .null, .int 0, .null, .int 0, .null, .null, .null, .null, .int 0, .null, .null, .int 0, .int 0, .null, .null, .null, .int 0, .int 0, .int 0, .int 0, .int 0, .int 0]))) 232 (.inl (G.2.1 0, 8, .inl (fun _ => 0)))) 211 (.inr (11, [.ref (mm_ad G 212), .int 0, .int 0, .int 0, .int 0, .long 0, .int 0, .ref (mm_ad G 213), .int 0, .ref (mm_ad G 214), .ref (mm_ad G 215), .ref (mm_ad G 216), .int 0, .ref (mm_ad G 217), .int 0, .ref (mm_ad G 218), .int 0, .int 0, .int 0, .int 0, .int 0, .ref (mm_ad G 219), .ref (mm_ad G 220), .ref (mm_ad G 221), .int 0, .ref (mm_ad G 222), .ref (mm_ad G 223), .ref (mm_ad G 224), .int 0, .ref (mm_ad G 225), .ref (mm_ad G 226), .ref (mm_ad G 227), .ref (mm_ad G 228), .ref (mm_ad G 229), .ref (mm_ad G 230), .int 0, .ref (mm_ad G 231), .long 0, .int 0, .ref (mm_ad G 232), .null, .null, .null, .null, .int 0, .null, .int 0, .null, .null, .null, .null, .int 0, .null, .null, .int 0, .int 0, .null, .null, .null, .int 0, .int 0, .int 0, .int 0, .int 0, .int 0]))) 233 (.inl (G.2.1 0, 8, .inl (fun _ => 0)))) 211 (.inr (11, [.ref (mm_ad G 212), .int 0, .int 0, .int 0, .int 0, .long 0, .int 0, .ref (mm_ad G 213), .int 0, .ref (mm_ad G 214), .ref (mm_ad G 215), .ref (mm_ad G 216), .int 0, .ref (mm_ad G 217), .int 0, .ref (mm_ad G 218), .int 0, .int 0, .int 0, .int 0, .int 0, .ref (mm_ad G 219), .ref (mm_ad G 220), .ref (mm_ad G 221), .int 0, .ref (mm_ad G 222), .ref (mm_ad G 223), .ref (mm_ad G 224), .int 0, .ref (mm_ad G 225), .ref (mm_ad G 226), .ref (mm_ad G 227), .ref (mm_ad G 228), .ref (mm_ad G 229), .ref (mm_ad G 230), .int 0, .ref (mm_ad G 231), .long 0, .int 0, .ref (mm_ad G 232), .ref (mm_ad G 233), .null, .null, .null, .int 0, .null, .int 0, .null, .null, .null, .null, .int 0, .null, .null, .int 0, .int 0, .null, .null, .null, .int 0, .int 0, .int 0, .int 0, .int 0, .int 0]))) 234 (.inl (G.2.1 2, 3, .inl (fun _ => 0)))) 211 (.inr (11, [.ref (mm_ad G 212), .int 0, .int 0, .int 0, .int 0, .long 0, .int 0, .ref (mm_ad G 213), .int 0, .ref (mm_ad G 214), .ref (mm_ad G 215), .ref (mm_ad G 216), .int 0, .ref (mm_ad G 217), .int 0, .ref (mm_ad G 218), .int 0, .int 0, .int 0, .int 0, .int 0, .ref (mm_ad G 219), .ref (mm_ad G 220), .ref (mm_ad G 221), .int 0, .ref (mm_ad G 222), .ref (mm_ad G 223), .ref (mm_ad G 224), .int 0, .ref (mm_ad G 225), .ref (mm_ad G 226), .ref (mm_ad G 227), .ref (mm_ad G 228), .ref (mm_ad G 229), .ref (mm_ad G 230), .int 0, .ref (mm_ad G 231), .long 0, .int 0, .ref (mm_ad G 232), .ref (mm_ad G 233), .ref (mm_ad G 234), .null, .null, .int 0, .null, .int 0, .null, .null, .null, .null, .int 0, .null, .null, .int 0, .int 0, .null, .null, .null, .int 0, .int 0, .int 0, .int 0, .int 0, .int 0]))) 235 (.inl (G.2.1 0, 1338, .inl (fun _ => 0)))) 211 (.inr (11, [.ref (mm_ad G 212), .int 0, .int 0, .int 0, .int 0, .long 0, .int 0, .ref (mm_ad G 213), .int 0, .ref (mm_ad G 214), .ref (mm_ad G 215), .ref (mm_ad G 216), .int 0, .ref (mm_ad G 217), .int 0, .ref (mm_ad G 218), .int 0, .int 0, .int 0, .int 0, .int 0, .ref (mm_ad G 219), .ref (mm_ad G 220), .ref (mm_ad G 221), .int 0, .ref (mm_ad G 222), .ref (mm_ad G 223), .ref (mm_ad G 224), .int 0, .ref (mm_ad G 225), .ref (mm_ad G 226), .ref (mm_ad G 227), .ref (mm_ad G 228), .ref (mm_ad G 229), .ref (mm_ad G 230), .int 0, .ref (mm_ad G 231), .long 0, .int 0, .ref (mm_ad G 232), .ref (mm_ad G 233), .ref (mm_ad G 234), .ref (mm_ad G 235), .null, .int 0, .null, .int 0, .null, .null, .null, .null, .int 0, .null, .null, .int 0, .int 0, .null, .null, .null, .int 0, .int 0, .int 0, .int 0, .int 0, .int 0]))) 236 (.inl (G.2.1 3, 3, .inr (.inl (fun _ => 0))))) 211 (.inr (11, [.ref (mm_ad G 212), .int 0, .int 0, .int 0, .int 0, .long 0, .int 0, .ref (mm_ad G 213), .int 0, .ref (mm_ad G 214), .ref (mm_ad G 215), .ref (mm_ad G 216), .int 0, .ref (mm_ad G 217), .int 0, .ref (mm_ad G 218), .int 0, .int 0, .int 0, .int 0, .int 0, .ref (mm_ad G 219), .ref (mm_ad G 220), .ref (mm_ad G 221), .int 0, .ref (mm_ad G 222), .ref (mm_ad G 223), .ref (mm_ad G 224), .int 0, .ref (mm_ad G 225), .ref (mm_ad G 226), .ref (mm_ad G 227), .ref (mm_ad G 228), .ref (mm_ad G 229), .ref (mm_ad G 230), .int 0, .ref (mm_ad G 231), .long 0, .int 0, .ref (mm_ad G 232), .ref (mm_ad G 233), .ref (mm_ad G 234), .ref (mm_ad G 235), .ref (mm_ad G 236), .int 0, .null, .int 0, .null, .null, .null, .null, .int 0, .null, .null, .int 0, .int 0, .null, .null, .null, .int 0, .int 0, .int 0, .int 0, .int 0, .int 0]))) 237 (.inl (G.2.1 0, 600, .inl (fun _ => 0)))) 211 (.inr (11, [.ref (mm_ad G 212), .int 0, .int 0, .int 0, .int 0, .long 0, .int 0, .ref (mm_ad G 213), .int 0, .ref (mm_ad G 214), .ref (mm_ad G 215), .ref (mm_ad G 216), .int 0, .ref (mm_ad G 217), .int 0, .ref (mm_ad G 218), .int 0, .int 0, .int 0, .int 0, .int 0, .ref (mm_ad G 219), .ref (mm_ad G 220), .ref (mm_ad G 221), .int 0, .ref (mm_ad G 222), .ref (mm_ad G 223), .ref (mm_ad G 224), .int 0, .ref (mm_ad G 225), .ref (mm_ad G 226), .ref (mm_ad G 227), .ref (mm_ad G 228), .ref (mm_ad G 229), .ref (mm_ad G 230), .int 0, .ref (mm_ad G 231), .long 0, .int 0, .ref (mm_ad G 232), .ref (mm_ad G 233), .ref (mm_ad G 234), .ref (mm_ad G 235), .ref (mm_ad G 236), .int 0, .ref (mm_ad G 237), .int 0, .null, .null, .null, .null, .int 0, .null, .null, .int 0, .int 0, .null, .null, .null, .int 0, .int 0, .int 0, .int 0, .int 0, .int 0]))) 238 (.inl (G.2.1 2, 9, .inl (fun _ => 0)))) 211 (.inr (11, [.ref (mm_ad G 212), .int 0, .int 0, .int 0, .int 0, .long 0, .int 0, .ref (mm_ad G 213), .int 0, .ref (mm_ad G 214), .ref (mm_ad G 215), .ref (mm_ad G 216), .int 0, .ref (mm_ad G 217), .int 0, .ref (mm_ad G 218), .int 0, .int 0, .int 0, .int 0, .int 0, .ref (mm_ad G 219), .ref (mm_ad G 220), .ref (mm_ad G 221), .int 0, .ref (mm_ad G 222), .ref (mm_ad G 223), .ref (mm_ad G 224), .int 0, .ref (mm_ad G 225), .ref (mm_ad G 226), .ref (mm_ad G 227), .ref (mm_ad G 228), .ref (mm_ad G 229), .ref (mm_ad G 230), .int 0, .ref (mm_ad G 231), .long 0, .int 0, .ref (mm_ad G 232), .ref (mm_ad G 233), .ref (mm_ad G 234), .ref (mm_ad G 235), .ref (mm_ad G 236), .int 0, .ref (mm_ad G 237), .int 0, .ref (mm_ad G 238), .null, .null, .null, .int 0, .null, .null, .int 0, .int 0, .null, .null, .null, .int 0, .int 0, .int 0, .int 0, .int 0, .int 0]))) 239 (.inl (G.2.1 0, 10, .inl (fun _ => 0)))) 211 (.inr (11, [.ref (mm_ad G 212), .int 0, .int 0, .int 0, .int 0, .long 0, .int 0, .ref (mm_ad G 213), .int 0, .ref (mm_ad G 214), .ref (mm_ad G 215), .ref (mm_ad G 216), .int 0, .ref (mm_ad G 217), .int 0, .ref (mm_ad G 218), .int 0, .int 0, .int 0, .int 0, .int 0, .ref (mm_ad G 219), .ref (mm_ad G 220), .ref (mm_ad G 221), .int 0, .ref (mm_ad G 222), .ref (mm_ad G 223), .ref (mm_ad G 224), .int 0, .ref (mm_ad G 225), .ref (mm_ad G 226), .ref (mm_ad G 227), .ref (mm_ad G 228), .ref (mm_ad G 229), .ref (mm_ad G 230), .int 0, .ref (mm_ad G 231), .long 0, .int 0, .ref (mm_ad G 232), .ref (mm_ad G 233), .ref (mm_ad G 234), .ref (mm_ad G 235), .ref (mm_ad G 236), .int 0, .ref (mm_ad G 237), .int 0, .ref (mm_ad G 238), .ref (mm_ad G 239), .null, .null, .int 0, .null, .null, .int 0, .int 0, .null, .null, .null, .int 0, .int 0, .int 0, .int 0, .int 0, .int 0]))) 240 (.inl (G.2.1 0, 600, .inl (fun _ => 0)))) 211 (.inr (11, [.ref (mm_ad G 212), .int 0, .int 0, .int 0, .int 0, .long 0, .int 0, .ref (mm_ad G 213), .int 0, .ref (mm_ad G 214), .ref (mm_ad G 215), .ref (mm_ad G 216), .int 0, .ref (mm_ad G 217), .int 0, .ref (mm_ad G 218), .int 0, .int 0, .int 0, .int 0, .int 0, .ref (mm_ad G 219), .ref (mm_ad G 220), .ref (mm_ad G 221), .int 0, .ref (mm_ad G 222), .ref (mm_ad G 223), .ref (mm_ad G 224), .int 0, .ref (mm_ad G 225), .ref (mm_ad G 226), .ref (mm_ad G 227), .ref (mm_ad G 228), .ref (mm_ad G 229), .ref (mm_ad G 230), .int 0, .ref (mm_ad G 231), .long 0, .int 0, .ref (mm_ad G 232), .ref (mm_ad G 233), .ref (mm_ad G 234), .ref (mm_ad G 235), .ref (mm_ad G 236), .int 0, .ref (mm_ad G 237), .int 0, .ref (mm_ad G 238), .ref (mm_ad G 239), .ref (mm_ad G 240), .null, .int 0, .null, .null, .int 0, .int 0, .null, .null, .null, .int 0, .int 0, .int 0, .int 0, .int 0, .int 0]))) 241 (.inl (G.2.1 0, 8, .inl (fun _ => 0)))) 211 (.inr (11, [.ref (mm_ad G 212), .int 0, .int 0, .int 0, .int 0, .long 0, .int 0, .ref (mm_ad G 213), .int 0, .ref (mm_ad G 214), .ref (mm_ad G 215), .ref (mm_ad G 216), .int 0, .ref (mm_ad G 217), .int 0, .ref (mm_ad G 218), .int 0, .int 0, .int 0, .int 0, .int 0, .ref (mm_ad G 219), .ref (mm_ad G 220), .ref (mm_ad G 221), .int 0, .ref (mm_ad G 222), .ref (mm_ad G 223), .ref (mm_ad G 224), .int 0, .ref (mm_ad G 225), .ref (mm_ad G 226), .ref (mm_ad G 227), .ref (mm_ad G 228), .ref (mm_ad G 229), .ref (mm_ad G 230), .int 0, .ref (mm_ad G 231), .long 0, .int 0, .ref (mm_ad G 232), .ref (mm_ad G 233), .ref (mm_ad G 234), .ref (mm_ad G 235), .ref (mm_ad G 236), .int 0, .ref (mm_ad G 237), .int 0, .ref (mm_ad G 238), .ref (mm_ad G 239), .ref (mm_ad G 240), .ref (mm_ad G 241), .int 0, .null, .null, .int 0, .int 0, .null, .null, .null, .int 0, .int 0, .int 0, .int 0, .int 0, .int 0]))) 242 (.inl (G.2.1 0, 8, .inl (fun _ => 0)))) 211 (.inr (11, [.ref (mm_ad G 212), .int 0, .int 0, .int 0, .int 0, .long 0, .int 0, .ref (mm_ad G 213), .int 0, .ref (mm_ad G 214), .ref (mm_ad G 215), .ref (mm_ad G 216), .int 0, .ref (mm_ad G 217), .int 0, .ref (mm_ad G 218), .int 0, .int 0, .int 0, .int 0, .int 0, .ref (mm_ad G 219), .ref (mm_ad G 220), .ref (mm_ad G 221), .int 0, .ref (mm_ad G 222), .ref (mm_ad G 223), .ref (mm_ad G 224), .int 0, .ref (mm_ad G 225), .ref (mm_ad G 226), .ref (mm_ad G 227), .ref (mm_ad G 228), .ref (mm_ad G 229), .ref (mm_ad G 230), .int 0, .ref (mm_ad G 231), .long 0, .int 0, .ref (mm_ad G 232), .ref (mm_ad G 233), .ref (mm_ad G 234), .ref (mm_ad G 235), .ref (mm_ad G 236), .int 0, .ref (mm_ad G 237), .int 0, .ref (mm_ad G 238), .ref (mm_ad G 239), .ref (mm_ad G 240), .ref (mm_ad G 241), .int 0, .ref (mm_ad G 242), .null, .int 0, .int 0, .null, .null, .null, .int 0, .int 0, .int 0, .int 0, .int 0, .int 0]))) 243 (.inl (G.2.1 0, 8, .inl (fun _ => 0)))) 211 (.inr (11, [.ref (mm_ad G 212), .int 0, .int 0, .int 0, .int 0, .long 0, .int 0, .ref (mm_ad G 213), .int 0, .ref (mm_ad G 214), .ref (mm_ad G 215), .ref (mm_ad G 216), .int 0, .ref (mm_ad G 217), .int 0, .ref (mm_ad G 218), .int 0, .int 0, .int 0, .int 0, .int 0, .ref (mm_ad G 219), .ref (mm_ad G 220), .ref (mm_ad G 221), .int 0, .ref (mm_ad G 222), .ref (mm_ad G 223), .ref (mm_ad G 224), .int 0, .ref (mm_ad G 225), .ref (mm_ad G 226), .ref (mm_ad G 227), .ref (mm_ad G 228), .ref (mm_ad G 229), .ref (mm_ad G 230), .int 0, .ref (mm_ad G 231), .long 0, .int 0, .ref (mm_ad G 232), .ref (mm_ad G 233), .ref (mm_ad G 234), .ref (mm_ad G 235), .ref (mm_ad G 236), .int 0, .ref (mm_ad G 237), .int 0, .ref (mm_ad G 238), .ref (mm_ad G 239), .ref (mm_ad G 240), .ref (mm_ad G 241), .int 0, .ref (mm_ad G 242), .ref (mm_ad G 243), .int 0, .int 0, .null, .null, .null, .int 0, .int 0, .int 0, .int 0, .int 0, .int 0]))) 244 (.inl (G.2.1 0, 256, .inl (fun _ => 0)))) 211 (.inr (11, [.ref (mm_ad G 212), .int 0, .int 0, .int 0, .int 0, .long 0, .int 0, .ref (mm_ad G 213), .int 0, .ref (mm_ad G 214), .ref (mm_ad G 215), .ref (mm_ad G 216), .int 0, .ref (mm_ad G 217), .int 0, .ref (mm_ad G 218), .int 0, .int 0, .int 0, .int 0, .int 0, .ref (mm_ad G 219), .ref (mm_ad G 220), .ref (mm_ad G 221), .int 0, .ref (mm_ad G 222), .ref (mm_ad G 223), .ref (mm_ad G 224), .int 0, .ref (mm_ad G 225), .ref (mm_ad G 226), .ref (mm_ad G 227), .ref (mm_ad G 228), .ref (mm_ad G 229), .ref (mm_ad G 230), .int 0, .ref (mm_ad G 231), .long 0, .int 0, .ref (mm_ad G 232), .ref (mm_ad G 233), .ref (mm_ad G 234), .ref (mm_ad G 235), .ref (mm_ad G 236), .int 0, .ref (mm_ad G 237), .int 0, .ref (mm_ad G 238), .ref (mm_ad G 239), .ref (mm_ad G 240), .ref (mm_ad G 241), .int 0, .ref (mm_ad G 242), .ref (mm_ad G 243), .int 0, .int 0, .ref (mm_ad G 244), .null, .null, .int 0, .int 0, .int 0, .int 0, .int 0, .int 0]))) 245 (.inl (G.2.1 3, 256, .inr (.inl (fun _ => 0))))) 211 (.inr (11, [.ref (mm_ad G 212), .int 0, .int 0, .int 0, .int 0, .long 0, .int 0, .ref (mm_ad G 213), .int 0, .ref (mm_ad G 214), .ref (mm_ad G 215), .ref (mm_ad G 216), .int 0, .ref (mm_ad G 217), .int 0, .ref (mm_ad G 218), .int 0, .int 0, .int 0, .int 0, .int 0, .ref (mm_ad G 219), .ref (mm_ad G 220), .ref (mm_ad G 221), .int 0, .ref (mm_ad G 222), .ref (mm_ad G 223), .ref (mm_ad G 224), .int 0, .ref (mm_ad G 225), .ref (mm_ad G 226), .ref (mm_ad G 227), .ref (mm_ad G 228), .ref (mm_ad G 229), .ref (mm_ad G 230), .int 0, .ref (mm_ad G 231), .long 0, .int 0, .ref (mm_ad G 232), .ref (mm_ad G 233), .ref (mm_ad G 234), .ref (mm_ad G 235), .ref (mm_ad G 236), .int 0, .ref (mm_ad G 237), .int 0, .ref (mm_ad G 238), .ref (mm_ad G 239), .ref (mm_ad G 240), .ref (mm_ad G 241), .int 0, .ref (mm_ad G 242), .ref (mm_ad G 243), .int 0, .int 0, .ref (mm_ad G 244), .ref (mm_ad G 245), .null, .int 0, .int 0, .int 0, .int 0, .int 0, .int 0]))) 246 (.inl (G.2.1 0, 20449, .inl (fun _ => 0)))) 211 (.inr (11, [.ref (mm_ad G 212), .int 0, .int 0, .int 0, .int 0, .long 0, .int 0, .ref (mm_ad G 213), .int 0, .ref (mm_ad G 214), .ref (mm_ad G 215), .ref (mm_ad G 216), .int 0, .ref (mm_ad G 217), .int 0, .ref (mm_ad G 218), .int 0, .int 0, .int 0, .int 0, .int 0, .ref (mm_ad G 219), .ref (mm_ad G 220), .ref (mm_ad G 221), .int 0, .ref (mm_ad G 222), .ref (mm_ad G 223), .ref (mm_ad G 224), .int 0, .ref (mm_ad G 225), .ref (mm_ad G 226), .ref (mm_ad G 227), .ref (mm_ad G 228), .ref (mm_ad G 229), .ref (mm_ad G 230), .int 0, .ref (mm_ad G 231), .long 0, .int 0, .ref (mm_ad G 232), .ref (mm_ad G 233), .ref (mm_ad G 234), .ref (mm_ad G 235), .ref (mm_ad G 236), .int 0, .ref (mm_ad G 237), .int 0, .ref (mm_ad G 238), .ref (mm_ad G 239), .ref (mm_ad G 240), .ref (mm_ad G 241), .int 0, .ref (mm_ad G 242), .ref (mm_ad G 243), .int 0, .int 0, .ref (mm_ad G 244), .ref (mm_ad G 245), .ref (mm_ad G 246), .int 0, .int 0, .int 0, .int 0, .int 0, .int 0]))
def kE (G : mm_G) (τ : Nat → va_E) (k : Nat) : Prop := ∀ (a : Nat) (H : Heap), va_at G.1 vwCl (a, kF G τ k) H → va_at G.1 vwCl (a, mm_cR G (mm_s0 k) k) H
theorem kE_r {G : mm_G} {τ : Nat → va_E} {k : Nat} {e : va_E} (h1 : kF G τ k = e) (h2 : e = mm_cR G (mm_s0 k) k) : kE G τ k := fun a H h => by rw [← h2, ← h1]; exact h
theorem kE_q {G : mm_G} {τ : Nat → va_E} {k N : Nat} {cA : ClassId} {f : Nat → Option Nat} {f2 : Nat → Option Nat} (h1 : kF G τ k = .inl (cA, N, .inr (.inr (.inr (.inr f))))) (h2 : .inl (cA, N, .inr (.inr (.inr (.inr f2)))) = mm_cR G (mm_s0 k) k) (hf : ∀ r, r < N → f r = f2 r) : kE G τ k := fun a H h => by
  rw [h1] at h
  rw [← h2]
  have h : H[a]? = some (vp_cell cA (N, .inr (.inr (.inr (.inr f))))) := h
  show H[a]? = some (vp_cell cA (N, .inr (.inr (.inr (.inr f2)))))
  rw [h, vp_cell_q, vp_cell_q]
  unfold arrV
  congr 3
  funext j
  show va_rf (f j.val) = va_rf (f2 j.val)
  rw [hf j.val j.isLt]
set_option maxRecDepth 100000 in
theorem kf_0 (G : mm_G) (τ : Nat → va_E) : kE G τ 0 := kE_r (e := .inr (10, [.ref (mm_ad G 7), .ref (mm_ad G 9), .ref (mm_ad G 14), .ref (mm_ad G 19), .ref (mm_ad G 24), .ref (mm_ad G 29), .ref (mm_ad G 71), .ref (mm_ad G 198), .ref (mm_ad G 199), .ref (mm_ad G 206)])) rfl rfl
set_option maxRecDepth 100000 in
theorem kf_1 (G : mm_G) (τ : Nat → va_E) : kE G τ 1 := kE_r (e := .inr (1, [.ref (mm_ad G 2), .ref (mm_ad G 3), .ref (mm_ad G 4), .ref (mm_ad G 5), .ref (mm_ad G 6), .int (mm_I 0), .int (mm_I 0), .int (mm_I 0)])) rfl rfl
set_option maxRecDepth 100000 in
theorem kf_2 (G : mm_G) (τ : Nat → va_E) : kE G τ 2 := kE_r (e := .inl (G.2.1 0, 30, .inl (fun _ => 0))) rfl rfl
set_option maxRecDepth 100000 in
theorem kf_3 (G : mm_G) (τ : Nat → va_E) : kE G τ 3 := kE_r (e := .inl (G.2.1 0, 30, .inl (fun _ => 0))) rfl rfl
set_option maxRecDepth 100000 in
theorem kf_4 (G : mm_G) (τ : Nat → va_E) : kE G τ 4 := kE_r (e := .inl (G.2.1 0, 30, .inl (fun _ => 0))) rfl rfl
set_option maxRecDepth 100000 in
theorem kf_5 (G : mm_G) (τ : Nat → va_E) : kE G τ 5 := kE_r (e := .inl (G.2.1 0, 30, .inl (fun _ => 0))) rfl rfl
set_option maxRecDepth 100000 in
theorem kf_6 (G : mm_G) (τ : Nat → va_E) : kE G τ 6 := kE_r (e := .inl (G.2.1 0, 30, .inl (fun _ => 0))) rfl rfl
set_option maxRecDepth 100000 in
theorem kf_7 (G : mm_G) (τ : Nat → va_E) : kE G τ 7 := kE_r (e := .inr (8, [.ref (mm_ad G 8), .int (mm_I 0), .int (mm_I 0), .int (mm_I 0), .int (mm_I 0), .int (mm_I 0), .int (mm_I 0)])) rfl rfl
set_option maxRecDepth 100000 in
theorem kf_8 (G : mm_G) (τ : Nat → va_E) : kE G τ 8 := kE_r (e := .inl (G.2.1 0, 500, .inl (fun _ => 0))) rfl rfl
set_option maxRecDepth 100000 in
theorem kf_9 (G : mm_G) (τ : Nat → va_E) : kE G τ 9 := kE_r (e := .inr (9, [.ref (mm_ad G 10), .ref (mm_ad G 11), .ref (mm_ad G 12), .ref (mm_ad G 13), .int (mm_I 0), .int (mm_I 0), .int (mm_I (-1)), .int (mm_I (-1)), .int (mm_I (-1))])) rfl rfl
set_option maxRecDepth 100000 in
theorem kf_10 (G : mm_G) (τ : Nat → va_E) : kE G τ 10 := kE_r (e := .inl (G.2.1 0, 9, .inl (fun _ => 0))) rfl rfl
set_option maxRecDepth 100000 in
theorem kf_11 (G : mm_G) (τ : Nat → va_E) : kE G τ 11 := kE_r (e := .inl (G.2.1 0, 30, .inl (fun _ => 0))) rfl rfl
set_option maxRecDepth 100000 in
theorem kf_12 (G : mm_G) (τ : Nat → va_E) : kE G τ 12 := kE_r (e := .inl (G.2.1 0, 5, .inl (fun _ => 0))) rfl rfl
set_option maxRecDepth 100000 in
theorem kf_13 (G : mm_G) (τ : Nat → va_E) : kE G τ 13 := kE_r (e := .inl (G.2.1 0, 5, .inl (fun _ => 0))) rfl rfl
set_option maxRecDepth 100000 in
theorem kf_14 (G : mm_G) (τ : Nat → va_E) : kE G τ 14 := kE_r (e := .inr (9, [.ref (mm_ad G 15), .ref (mm_ad G 16), .ref (mm_ad G 17), .ref (mm_ad G 18), .int (mm_I 0), .int (mm_I 0), .int (mm_I (-1)), .int (mm_I (-1)), .int (mm_I (-1))])) rfl rfl
set_option maxRecDepth 100000 in
theorem kf_15 (G : mm_G) (τ : Nat → va_E) : kE G τ 15 := kE_r (e := .inl (G.2.1 0, 9, .inl (fun _ => 0))) rfl rfl
set_option maxRecDepth 100000 in
theorem kf_16 (G : mm_G) (τ : Nat → va_E) : kE G τ 16 := kE_r (e := .inl (G.2.1 0, 30, .inl (fun _ => 0))) rfl rfl
set_option maxRecDepth 100000 in
theorem kf_17 (G : mm_G) (τ : Nat → va_E) : kE G τ 17 := kE_r (e := .inl (G.2.1 0, 5, .inl (fun _ => 0))) rfl rfl
set_option maxRecDepth 100000 in
theorem kf_18 (G : mm_G) (τ : Nat → va_E) : kE G τ 18 := kE_r (e := .inl (G.2.1 0, 5, .inl (fun _ => 0))) rfl rfl
set_option maxRecDepth 100000 in
theorem kf_19 (G : mm_G) (τ : Nat → va_E) : kE G τ 19 := kE_r (e := .inr (3, [.ref (mm_ad G 20), .ref (mm_ad G 21), .ref (mm_ad G 22), .ref (mm_ad G 23), .int (mm_I 0), .int (mm_I 0), .int (mm_I 0)])) rfl rfl
set_option maxRecDepth 100000 in
theorem kf_20 (G : mm_G) (τ : Nat → va_E) : kE G τ 20 := kE_r (e := .inl (G.2.1 0, 500, .inl (fun _ => 0))) rfl rfl
set_option maxRecDepth 100000 in
theorem kf_21 (G : mm_G) (τ : Nat → va_E) : kE G τ 21 := kE_r (e := .inl (G.2.1 0, 5, .inl (fun _ => 0))) rfl rfl
set_option maxRecDepth 100000 in
theorem kf_22 (G : mm_G) (τ : Nat → va_E) : kE G τ 22 := kE_r (e := .inl (G.2.1 2, 5, .inl (fun _ => 0))) rfl rfl
set_option maxRecDepth 100000 in
theorem kf_23 (G : mm_G) (τ : Nat → va_E) : kE G τ 23 := kE_r (e := .inl (G.2.1 0, 40, .inl (fun _ => 0))) rfl rfl
set_option maxRecDepth 100000 in
theorem kf_24 (G : mm_G) (τ : Nat → va_E) : kE G τ 24 := kE_r (e := .inr (3, [.ref (mm_ad G 25), .ref (mm_ad G 26), .ref (mm_ad G 27), .ref (mm_ad G 28), .int (mm_I 0), .int (mm_I 0), .int (mm_I 0)])) rfl rfl
set_option maxRecDepth 100000 in
theorem kf_25 (G : mm_G) (τ : Nat → va_E) : kE G τ 25 := kE_r (e := .inl (G.2.1 0, 500, .inl (fun _ => 0))) rfl rfl
set_option maxRecDepth 100000 in
theorem kf_26 (G : mm_G) (τ : Nat → va_E) : kE G τ 26 := kE_r (e := .inl (G.2.1 0, 5, .inl (fun _ => 0))) rfl rfl
set_option maxRecDepth 100000 in
theorem kf_27 (G : mm_G) (τ : Nat → va_E) : kE G τ 27 := kE_r (e := .inl (G.2.1 2, 5, .inl (fun _ => 0))) rfl rfl
set_option maxRecDepth 100000 in
theorem kf_28 (G : mm_G) (τ : Nat → va_E) : kE G τ 28 := kE_r (e := .inl (G.2.1 0, 40, .inl (fun _ => 0))) rfl rfl
set_option maxRecDepth 100000 in
theorem kf_29 (G : mm_G) (τ : Nat → va_E) : kE G τ 29 := kE_r (e := .inr (7, [.ref (mm_ad G 9), .ref (mm_ad G 19), .ref (mm_ad G 1), .ref (mm_ad G 30), .ref (mm_ad G 31), .ref (mm_ad G 32), .ref (mm_ad G 33), .int (mm_I 0), .int (mm_I 0)])) rfl rfl
theorem kr_30 : ∀ r, r < 30 → 30 + 5 + r = mm_rt 30 r := by decide +kernel
set_option maxRecDepth 100000 in
theorem kf_30 (G : mm_G) (τ : Nat → va_E) : kE G τ 30 := kE_q (f := (fun r => if r < 30 then some (mm_ad G (30 + 5 + r)) else none)) (f2 := fun r => some (mm_ad G (mm_rt 30 r))) rfl rfl (fun r hr => (if_pos hr).trans (congrArg (fun z => some (mm_ad G z)) (kr_30 r hr)))
theorem kr_31 : ∀ r, r < 3 → 30 + 35 + 2 * r = mm_rt 31 r := by decide +kernel
set_option maxRecDepth 100000 in
theorem kf_31 (G : mm_G) (τ : Nat → va_E) : kE G τ 31 := kE_q (f := (fun r => if r < 3 then some (mm_ad G (30 + 35 + 2 * r)) else none)) (f2 := fun r => some (mm_ad G (mm_rt 31 r))) rfl rfl (fun r hr => (if_pos hr).trans (congrArg (fun z => some (mm_ad G z)) (kr_31 r hr)))
set_option maxRecDepth 100000 in
theorem kf_32 (G : mm_G) (τ : Nat → va_E) : kE G τ 32 := kE_r (e := .inl (G.2.1 0, 35, .inl (fun _ => 0))) rfl rfl
set_option maxRecDepth 100000 in
theorem kf_33 (G : mm_G) (τ : Nat → va_E) : kE G τ 33 := kE_r (e := .inr (0, [.ref (mm_ad G 34), .int (mm_I 0)])) rfl rfl
set_option maxRecDepth 100000 in
theorem kf_34 (G : mm_G) (τ : Nat → va_E) : kE G τ 34 := kE_r (e := .inl (G.2.1 0, 100, .inl (fun _ => 0))) rfl rfl
set_option maxRecDepth 100000 in
theorem kf_35 (G : mm_G) (τ : Nat → va_E) : kE G τ 35 := kE_r (e := .inr (5, [.int (mm_I (-1)), .int (mm_I 0), .int (mm_I 0), .int (mm_I 0), .int (mm_I 0), .int (mm_I 0), .int (mm_I 0)])) rfl rfl
set_option maxRecDepth 100000 in
theorem kf_36 (G : mm_G) (τ : Nat → va_E) : kE G τ 36 := kE_r (e := .inr (5, [.int (mm_I (-1)), .int (mm_I 0), .int (mm_I 0), .int (mm_I 0), .int (mm_I 0), .int (mm_I 0), .int (mm_I 0)])) rfl rfl
set_option maxRecDepth 100000 in
theorem kf_37 (G : mm_G) (τ : Nat → va_E) : kE G τ 37 := kE_r (e := .inr (5, [.int (mm_I (-1)), .int (mm_I 0), .int (mm_I 0), .int (mm_I 0), .int (mm_I 0), .int (mm_I 0), .int (mm_I 0)])) rfl rfl
set_option maxRecDepth 100000 in
theorem kf_38 (G : mm_G) (τ : Nat → va_E) : kE G τ 38 := kE_r (e := .inr (5, [.int (mm_I (-1)), .int (mm_I 0), .int (mm_I 0), .int (mm_I 0), .int (mm_I 0), .int (mm_I 0), .int (mm_I 0)])) rfl rfl
set_option maxRecDepth 100000 in
theorem kf_39 (G : mm_G) (τ : Nat → va_E) : kE G τ 39 := kE_r (e := .inr (5, [.int (mm_I (-1)), .int (mm_I 0), .int (mm_I 0), .int (mm_I 0), .int (mm_I 0), .int (mm_I 0), .int (mm_I 0)])) rfl rfl
set_option maxRecDepth 100000 in
theorem kf_40 (G : mm_G) (τ : Nat → va_E) : kE G τ 40 := kE_r (e := .inr (5, [.int (mm_I (-1)), .int (mm_I 0), .int (mm_I 0), .int (mm_I 0), .int (mm_I 0), .int (mm_I 0), .int (mm_I 0)])) rfl rfl
set_option maxRecDepth 100000 in
theorem kf_41 (G : mm_G) (τ : Nat → va_E) : kE G τ 41 := kE_r (e := .inr (5, [.int (mm_I (-1)), .int (mm_I 0), .int (mm_I 0), .int (mm_I 0), .int (mm_I 0), .int (mm_I 0), .int (mm_I 0)])) rfl rfl
set_option maxRecDepth 100000 in
theorem kf_42 (G : mm_G) (τ : Nat → va_E) : kE G τ 42 := kE_r (e := .inr (5, [.int (mm_I (-1)), .int (mm_I 0), .int (mm_I 0), .int (mm_I 0), .int (mm_I 0), .int (mm_I 0), .int (mm_I 0)])) rfl rfl
set_option maxRecDepth 100000 in
theorem kf_43 (G : mm_G) (τ : Nat → va_E) : kE G τ 43 := kE_r (e := .inr (5, [.int (mm_I (-1)), .int (mm_I 0), .int (mm_I 0), .int (mm_I 0), .int (mm_I 0), .int (mm_I 0), .int (mm_I 0)])) rfl rfl
set_option maxRecDepth 100000 in
theorem kf_44 (G : mm_G) (τ : Nat → va_E) : kE G τ 44 := kE_r (e := .inr (5, [.int (mm_I (-1)), .int (mm_I 0), .int (mm_I 0), .int (mm_I 0), .int (mm_I 0), .int (mm_I 0), .int (mm_I 0)])) rfl rfl
set_option maxRecDepth 100000 in
theorem kf_45 (G : mm_G) (τ : Nat → va_E) : kE G τ 45 := kE_r (e := .inr (5, [.int (mm_I (-1)), .int (mm_I 0), .int (mm_I 0), .int (mm_I 0), .int (mm_I 0), .int (mm_I 0), .int (mm_I 0)])) rfl rfl
set_option maxRecDepth 100000 in
theorem kf_46 (G : mm_G) (τ : Nat → va_E) : kE G τ 46 := kE_r (e := .inr (5, [.int (mm_I (-1)), .int (mm_I 0), .int (mm_I 0), .int (mm_I 0), .int (mm_I 0), .int (mm_I 0), .int (mm_I 0)])) rfl rfl
set_option maxRecDepth 100000 in
theorem kf_47 (G : mm_G) (τ : Nat → va_E) : kE G τ 47 := kE_r (e := .inr (5, [.int (mm_I (-1)), .int (mm_I 0), .int (mm_I 0), .int (mm_I 0), .int (mm_I 0), .int (mm_I 0), .int (mm_I 0)])) rfl rfl
set_option maxRecDepth 100000 in
theorem kf_48 (G : mm_G) (τ : Nat → va_E) : kE G τ 48 := kE_r (e := .inr (5, [.int (mm_I (-1)), .int (mm_I 0), .int (mm_I 0), .int (mm_I 0), .int (mm_I 0), .int (mm_I 0), .int (mm_I 0)])) rfl rfl
set_option maxRecDepth 100000 in
theorem kf_49 (G : mm_G) (τ : Nat → va_E) : kE G τ 49 := kE_r (e := .inr (5, [.int (mm_I (-1)), .int (mm_I 0), .int (mm_I 0), .int (mm_I 0), .int (mm_I 0), .int (mm_I 0), .int (mm_I 0)])) rfl rfl
set_option maxRecDepth 100000 in
theorem kf_50 (G : mm_G) (τ : Nat → va_E) : kE G τ 50 := kE_r (e := .inr (5, [.int (mm_I (-1)), .int (mm_I 0), .int (mm_I 0), .int (mm_I 0), .int (mm_I 0), .int (mm_I 0), .int (mm_I 0)])) rfl rfl
set_option maxRecDepth 100000 in
theorem kf_51 (G : mm_G) (τ : Nat → va_E) : kE G τ 51 := kE_r (e := .inr (5, [.int (mm_I (-1)), .int (mm_I 0), .int (mm_I 0), .int (mm_I 0), .int (mm_I 0), .int (mm_I 0), .int (mm_I 0)])) rfl rfl
set_option maxRecDepth 100000 in
theorem kf_52 (G : mm_G) (τ : Nat → va_E) : kE G τ 52 := kE_r (e := .inr (5, [.int (mm_I (-1)), .int (mm_I 0), .int (mm_I 0), .int (mm_I 0), .int (mm_I 0), .int (mm_I 0), .int (mm_I 0)])) rfl rfl
set_option maxRecDepth 100000 in
theorem kf_53 (G : mm_G) (τ : Nat → va_E) : kE G τ 53 := kE_r (e := .inr (5, [.int (mm_I (-1)), .int (mm_I 0), .int (mm_I 0), .int (mm_I 0), .int (mm_I 0), .int (mm_I 0), .int (mm_I 0)])) rfl rfl
set_option maxRecDepth 100000 in
theorem kf_54 (G : mm_G) (τ : Nat → va_E) : kE G τ 54 := kE_r (e := .inr (5, [.int (mm_I (-1)), .int (mm_I 0), .int (mm_I 0), .int (mm_I 0), .int (mm_I 0), .int (mm_I 0), .int (mm_I 0)])) rfl rfl
set_option maxRecDepth 100000 in
theorem kf_55 (G : mm_G) (τ : Nat → va_E) : kE G τ 55 := kE_r (e := .inr (5, [.int (mm_I (-1)), .int (mm_I 0), .int (mm_I 0), .int (mm_I 0), .int (mm_I 0), .int (mm_I 0), .int (mm_I 0)])) rfl rfl
set_option maxRecDepth 100000 in
theorem kf_56 (G : mm_G) (τ : Nat → va_E) : kE G τ 56 := kE_r (e := .inr (5, [.int (mm_I (-1)), .int (mm_I 0), .int (mm_I 0), .int (mm_I 0), .int (mm_I 0), .int (mm_I 0), .int (mm_I 0)])) rfl rfl
set_option maxRecDepth 100000 in
theorem kf_57 (G : mm_G) (τ : Nat → va_E) : kE G τ 57 := kE_r (e := .inr (5, [.int (mm_I (-1)), .int (mm_I 0), .int (mm_I 0), .int (mm_I 0), .int (mm_I 0), .int (mm_I 0), .int (mm_I 0)])) rfl rfl
set_option maxRecDepth 100000 in
theorem kf_58 (G : mm_G) (τ : Nat → va_E) : kE G τ 58 := kE_r (e := .inr (5, [.int (mm_I (-1)), .int (mm_I 0), .int (mm_I 0), .int (mm_I 0), .int (mm_I 0), .int (mm_I 0), .int (mm_I 0)])) rfl rfl
set_option maxRecDepth 100000 in
theorem kf_59 (G : mm_G) (τ : Nat → va_E) : kE G τ 59 := kE_r (e := .inr (5, [.int (mm_I (-1)), .int (mm_I 0), .int (mm_I 0), .int (mm_I 0), .int (mm_I 0), .int (mm_I 0), .int (mm_I 0)])) rfl rfl
set_option maxRecDepth 100000 in
theorem kf_60 (G : mm_G) (τ : Nat → va_E) : kE G τ 60 := kE_r (e := .inr (5, [.int (mm_I (-1)), .int (mm_I 0), .int (mm_I 0), .int (mm_I 0), .int (mm_I 0), .int (mm_I 0), .int (mm_I 0)])) rfl rfl
set_option maxRecDepth 100000 in
theorem kf_61 (G : mm_G) (τ : Nat → va_E) : kE G τ 61 := kE_r (e := .inr (5, [.int (mm_I (-1)), .int (mm_I 0), .int (mm_I 0), .int (mm_I 0), .int (mm_I 0), .int (mm_I 0), .int (mm_I 0)])) rfl rfl
set_option maxRecDepth 100000 in
theorem kf_62 (G : mm_G) (τ : Nat → va_E) : kE G τ 62 := kE_r (e := .inr (5, [.int (mm_I (-1)), .int (mm_I 0), .int (mm_I 0), .int (mm_I 0), .int (mm_I 0), .int (mm_I 0), .int (mm_I 0)])) rfl rfl
set_option maxRecDepth 100000 in
theorem kf_63 (G : mm_G) (τ : Nat → va_E) : kE G τ 63 := kE_r (e := .inr (5, [.int (mm_I (-1)), .int (mm_I 0), .int (mm_I 0), .int (mm_I 0), .int (mm_I 0), .int (mm_I 0), .int (mm_I 0)])) rfl rfl
set_option maxRecDepth 100000 in
theorem kf_64 (G : mm_G) (τ : Nat → va_E) : kE G τ 64 := kE_r (e := .inr (5, [.int (mm_I (-1)), .int (mm_I 0), .int (mm_I 0), .int (mm_I 0), .int (mm_I 0), .int (mm_I 0), .int (mm_I 0)])) rfl rfl
set_option maxRecDepth 100000 in
theorem kf_65 (G : mm_G) (τ : Nat → va_E) : kE G τ 65 := kE_r (e := .inr (2, [.ref (mm_ad G 66), .int (mm_I 0), .int (mm_I 0), .int (mm_I 0)])) rfl rfl
set_option maxRecDepth 100000 in
theorem kf_66 (G : mm_G) (τ : Nat → va_E) : kE G τ 66 := kE_r (e := .inl (G.2.1 0, 30, .inl (fun _ => 0))) rfl rfl
set_option maxRecDepth 100000 in
theorem kf_67 (G : mm_G) (τ : Nat → va_E) : kE G τ 67 := kE_r (e := .inr (2, [.ref (mm_ad G 68), .int (mm_I 0), .int (mm_I 0), .int (mm_I 0)])) rfl rfl
set_option maxRecDepth 100000 in
theorem kf_68 (G : mm_G) (τ : Nat → va_E) : kE G τ 68 := kE_r (e := .inl (G.2.1 0, 30, .inl (fun _ => 0))) rfl rfl
set_option maxRecDepth 100000 in
theorem kf_69 (G : mm_G) (τ : Nat → va_E) : kE G τ 69 := kE_r (e := .inr (2, [.ref (mm_ad G 70), .int (mm_I 0), .int (mm_I 0), .int (mm_I 0)])) rfl rfl
set_option maxRecDepth 100000 in
theorem kf_70 (G : mm_G) (τ : Nat → va_E) : kE G τ 70 := kE_r (e := .inl (G.2.1 0, 30, .inl (fun _ => 0))) rfl rfl
set_option maxRecDepth 100000 in
theorem kf_71 (G : mm_G) (τ : Nat → va_E) : kE G τ 71 := kE_q (f := (va_up (va_up (va_up (fun _ => none) (0 : Int).toNat (some (mm_ad G 72))) (1 : Int).toNat (some (mm_ad G 114))) (2 : Int).toNat (some (mm_ad G 156)))) (f2 := fun r => some (mm_ad G (mm_rt 71 r))) rfl rfl (fun r hr => by rcases (show r = 0 ∨ r = 1 ∨ r = 2 by omega) with h | h | h <;> subst h <;> rfl)
set_option maxRecDepth 100000 in
theorem kf_72 (G : mm_G) (τ : Nat → va_E) : kE G τ 72 := kE_r (e := .inr (7, [.ref (mm_ad G 9), .ref (mm_ad G 19), .ref (mm_ad G 1), .ref (mm_ad G 73), .ref (mm_ad G 74), .ref (mm_ad G 75), .ref (mm_ad G 76), .int (mm_I 0), .int (mm_I 0)])) rfl rfl
theorem kr_73 : ∀ r, r < 30 → 73 + 5 + r = mm_rt 73 r := by decide +kernel
set_option maxRecDepth 100000 in
theorem kf_73 (G : mm_G) (τ : Nat → va_E) : kE G τ 73 := kE_q (f := (fun r => if r < 30 then some (mm_ad G (73 + 5 + r)) else none)) (f2 := fun r => some (mm_ad G (mm_rt 73 r))) rfl rfl (fun r hr => (if_pos hr).trans (congrArg (fun z => some (mm_ad G z)) (kr_73 r hr)))
theorem kr_74 : ∀ r, r < 3 → 73 + 35 + 2 * r = mm_rt 74 r := by decide +kernel
set_option maxRecDepth 100000 in
theorem kf_74 (G : mm_G) (τ : Nat → va_E) : kE G τ 74 := kE_q (f := (fun r => if r < 3 then some (mm_ad G (73 + 35 + 2 * r)) else none)) (f2 := fun r => some (mm_ad G (mm_rt 74 r))) rfl rfl (fun r hr => (if_pos hr).trans (congrArg (fun z => some (mm_ad G z)) (kr_74 r hr)))
set_option maxRecDepth 100000 in
theorem kf_75 (G : mm_G) (τ : Nat → va_E) : kE G τ 75 := kE_r (e := .inl (G.2.1 0, 35, .inl (fun _ => 0))) rfl rfl
set_option maxRecDepth 100000 in
theorem kf_76 (G : mm_G) (τ : Nat → va_E) : kE G τ 76 := kE_r (e := .inr (0, [.ref (mm_ad G 77), .int (mm_I 0)])) rfl rfl
set_option maxRecDepth 100000 in
theorem kf_77 (G : mm_G) (τ : Nat → va_E) : kE G τ 77 := kE_r (e := .inl (G.2.1 0, 100, .inl (fun _ => 0))) rfl rfl
set_option maxRecDepth 100000 in
theorem kf_78 (G : mm_G) (τ : Nat → va_E) : kE G τ 78 := kE_r (e := .inr (5, [.int (mm_I (-1)), .int (mm_I 0), .int (mm_I 0), .int (mm_I 0), .int (mm_I 0), .int (mm_I 0), .int (mm_I 0)])) rfl rfl
set_option maxRecDepth 100000 in
theorem kf_79 (G : mm_G) (τ : Nat → va_E) : kE G τ 79 := kE_r (e := .inr (5, [.int (mm_I (-1)), .int (mm_I 0), .int (mm_I 0), .int (mm_I 0), .int (mm_I 0), .int (mm_I 0), .int (mm_I 0)])) rfl rfl
set_option maxRecDepth 100000 in
theorem kf_80 (G : mm_G) (τ : Nat → va_E) : kE G τ 80 := kE_r (e := .inr (5, [.int (mm_I (-1)), .int (mm_I 0), .int (mm_I 0), .int (mm_I 0), .int (mm_I 0), .int (mm_I 0), .int (mm_I 0)])) rfl rfl
set_option maxRecDepth 100000 in
theorem kf_81 (G : mm_G) (τ : Nat → va_E) : kE G τ 81 := kE_r (e := .inr (5, [.int (mm_I (-1)), .int (mm_I 0), .int (mm_I 0), .int (mm_I 0), .int (mm_I 0), .int (mm_I 0), .int (mm_I 0)])) rfl rfl
set_option maxRecDepth 100000 in
theorem kf_82 (G : mm_G) (τ : Nat → va_E) : kE G τ 82 := kE_r (e := .inr (5, [.int (mm_I (-1)), .int (mm_I 0), .int (mm_I 0), .int (mm_I 0), .int (mm_I 0), .int (mm_I 0), .int (mm_I 0)])) rfl rfl
set_option maxRecDepth 100000 in
theorem kf_83 (G : mm_G) (τ : Nat → va_E) : kE G τ 83 := kE_r (e := .inr (5, [.int (mm_I (-1)), .int (mm_I 0), .int (mm_I 0), .int (mm_I 0), .int (mm_I 0), .int (mm_I 0), .int (mm_I 0)])) rfl rfl
set_option maxRecDepth 100000 in
theorem kf_84 (G : mm_G) (τ : Nat → va_E) : kE G τ 84 := kE_r (e := .inr (5, [.int (mm_I (-1)), .int (mm_I 0), .int (mm_I 0), .int (mm_I 0), .int (mm_I 0), .int (mm_I 0), .int (mm_I 0)])) rfl rfl
set_option maxRecDepth 100000 in
theorem kf_85 (G : mm_G) (τ : Nat → va_E) : kE G τ 85 := kE_r (e := .inr (5, [.int (mm_I (-1)), .int (mm_I 0), .int (mm_I 0), .int (mm_I 0), .int (mm_I 0), .int (mm_I 0), .int (mm_I 0)])) rfl rfl
set_option maxRecDepth 100000 in
theorem kf_86 (G : mm_G) (τ : Nat → va_E) : kE G τ 86 := kE_r (e := .inr (5, [.int (mm_I (-1)), .int (mm_I 0), .int (mm_I 0), .int (mm_I 0), .int (mm_I 0), .int (mm_I 0), .int (mm_I 0)])) rfl rfl
set_option maxRecDepth 100000 in
theorem kf_87 (G : mm_G) (τ : Nat → va_E) : kE G τ 87 := kE_r (e := .inr (5, [.int (mm_I (-1)), .int (mm_I 0), .int (mm_I 0), .int (mm_I 0), .int (mm_I 0), .int (mm_I 0), .int (mm_I 0)])) rfl rfl
set_option maxRecDepth 100000 in
theorem kf_88 (G : mm_G) (τ : Nat → va_E) : kE G τ 88 := kE_r (e := .inr (5, [.int (mm_I (-1)), .int (mm_I 0), .int (mm_I 0), .int (mm_I 0), .int (mm_I 0), .int (mm_I 0), .int (mm_I 0)])) rfl rfl
set_option maxRecDepth 100000 in
theorem kf_89 (G : mm_G) (τ : Nat → va_E) : kE G τ 89 := kE_r (e := .inr (5, [.int (mm_I (-1)), .int (mm_I 0), .int (mm_I 0), .int (mm_I 0), .int (mm_I 0), .int (mm_I 0), .int (mm_I 0)])) rfl rfl
set_option maxRecDepth 100000 in
theorem kf_90 (G : mm_G) (τ : Nat → va_E) : kE G τ 90 := kE_r (e := .inr (5, [.int (mm_I (-1)), .int (mm_I 0), .int (mm_I 0), .int (mm_I 0), .int (mm_I 0), .int (mm_I 0), .int (mm_I 0)])) rfl rfl
set_option maxRecDepth 100000 in
theorem kf_91 (G : mm_G) (τ : Nat → va_E) : kE G τ 91 := kE_r (e := .inr (5, [.int (mm_I (-1)), .int (mm_I 0), .int (mm_I 0), .int (mm_I 0), .int (mm_I 0), .int (mm_I 0), .int (mm_I 0)])) rfl rfl
set_option maxRecDepth 100000 in
theorem kf_92 (G : mm_G) (τ : Nat → va_E) : kE G τ 92 := kE_r (e := .inr (5, [.int (mm_I (-1)), .int (mm_I 0), .int (mm_I 0), .int (mm_I 0), .int (mm_I 0), .int (mm_I 0), .int (mm_I 0)])) rfl rfl
set_option maxRecDepth 100000 in
theorem kf_93 (G : mm_G) (τ : Nat → va_E) : kE G τ 93 := kE_r (e := .inr (5, [.int (mm_I (-1)), .int (mm_I 0), .int (mm_I 0), .int (mm_I 0), .int (mm_I 0), .int (mm_I 0), .int (mm_I 0)])) rfl rfl
set_option maxRecDepth 100000 in
theorem kf_94 (G : mm_G) (τ : Nat → va_E) : kE G τ 94 := kE_r (e := .inr (5, [.int (mm_I (-1)), .int (mm_I 0), .int (mm_I 0), .int (mm_I 0), .int (mm_I 0), .int (mm_I 0), .int (mm_I 0)])) rfl rfl
set_option maxRecDepth 100000 in
theorem kf_95 (G : mm_G) (τ : Nat → va_E) : kE G τ 95 := kE_r (e := .inr (5, [.int (mm_I (-1)), .int (mm_I 0), .int (mm_I 0), .int (mm_I 0), .int (mm_I 0), .int (mm_I 0), .int (mm_I 0)])) rfl rfl
set_option maxRecDepth 100000 in
theorem kf_96 (G : mm_G) (τ : Nat → va_E) : kE G τ 96 := kE_r (e := .inr (5, [.int (mm_I (-1)), .int (mm_I 0), .int (mm_I 0), .int (mm_I 0), .int (mm_I 0), .int (mm_I 0), .int (mm_I 0)])) rfl rfl
set_option maxRecDepth 100000 in
theorem kf_97 (G : mm_G) (τ : Nat → va_E) : kE G τ 97 := kE_r (e := .inr (5, [.int (mm_I (-1)), .int (mm_I 0), .int (mm_I 0), .int (mm_I 0), .int (mm_I 0), .int (mm_I 0), .int (mm_I 0)])) rfl rfl
set_option maxRecDepth 100000 in
theorem kf_98 (G : mm_G) (τ : Nat → va_E) : kE G τ 98 := kE_r (e := .inr (5, [.int (mm_I (-1)), .int (mm_I 0), .int (mm_I 0), .int (mm_I 0), .int (mm_I 0), .int (mm_I 0), .int (mm_I 0)])) rfl rfl
set_option maxRecDepth 100000 in
theorem kf_99 (G : mm_G) (τ : Nat → va_E) : kE G τ 99 := kE_r (e := .inr (5, [.int (mm_I (-1)), .int (mm_I 0), .int (mm_I 0), .int (mm_I 0), .int (mm_I 0), .int (mm_I 0), .int (mm_I 0)])) rfl rfl
set_option maxRecDepth 100000 in
theorem kf_100 (G : mm_G) (τ : Nat → va_E) : kE G τ 100 := kE_r (e := .inr (5, [.int (mm_I (-1)), .int (mm_I 0), .int (mm_I 0), .int (mm_I 0), .int (mm_I 0), .int (mm_I 0), .int (mm_I 0)])) rfl rfl
set_option maxRecDepth 100000 in
theorem kf_101 (G : mm_G) (τ : Nat → va_E) : kE G τ 101 := kE_r (e := .inr (5, [.int (mm_I (-1)), .int (mm_I 0), .int (mm_I 0), .int (mm_I 0), .int (mm_I 0), .int (mm_I 0), .int (mm_I 0)])) rfl rfl
set_option maxRecDepth 100000 in
theorem kf_102 (G : mm_G) (τ : Nat → va_E) : kE G τ 102 := kE_r (e := .inr (5, [.int (mm_I (-1)), .int (mm_I 0), .int (mm_I 0), .int (mm_I 0), .int (mm_I 0), .int (mm_I 0), .int (mm_I 0)])) rfl rfl
set_option maxRecDepth 100000 in
theorem kf_103 (G : mm_G) (τ : Nat → va_E) : kE G τ 103 := kE_r (e := .inr (5, [.int (mm_I (-1)), .int (mm_I 0), .int (mm_I 0), .int (mm_I 0), .int (mm_I 0), .int (mm_I 0), .int (mm_I 0)])) rfl rfl
set_option maxRecDepth 100000 in
theorem kf_104 (G : mm_G) (τ : Nat → va_E) : kE G τ 104 := kE_r (e := .inr (5, [.int (mm_I (-1)), .int (mm_I 0), .int (mm_I 0), .int (mm_I 0), .int (mm_I 0), .int (mm_I 0), .int (mm_I 0)])) rfl rfl
set_option maxRecDepth 100000 in
theorem kf_105 (G : mm_G) (τ : Nat → va_E) : kE G τ 105 := kE_r (e := .inr (5, [.int (mm_I (-1)), .int (mm_I 0), .int (mm_I 0), .int (mm_I 0), .int (mm_I 0), .int (mm_I 0), .int (mm_I 0)])) rfl rfl
set_option maxRecDepth 100000 in
theorem kf_106 (G : mm_G) (τ : Nat → va_E) : kE G τ 106 := kE_r (e := .inr (5, [.int (mm_I (-1)), .int (mm_I 0), .int (mm_I 0), .int (mm_I 0), .int (mm_I 0), .int (mm_I 0), .int (mm_I 0)])) rfl rfl
set_option maxRecDepth 100000 in
theorem kf_107 (G : mm_G) (τ : Nat → va_E) : kE G τ 107 := kE_r (e := .inr (5, [.int (mm_I (-1)), .int (mm_I 0), .int (mm_I 0), .int (mm_I 0), .int (mm_I 0), .int (mm_I 0), .int (mm_I 0)])) rfl rfl
set_option maxRecDepth 100000 in
theorem kf_108 (G : mm_G) (τ : Nat → va_E) : kE G τ 108 := kE_r (e := .inr (2, [.ref (mm_ad G 109), .int (mm_I 0), .int (mm_I 0), .int (mm_I 0)])) rfl rfl
set_option maxRecDepth 100000 in
theorem kf_109 (G : mm_G) (τ : Nat → va_E) : kE G τ 109 := kE_r (e := .inl (G.2.1 0, 30, .inl (fun _ => 0))) rfl rfl
set_option maxRecDepth 100000 in
theorem kf_110 (G : mm_G) (τ : Nat → va_E) : kE G τ 110 := kE_r (e := .inr (2, [.ref (mm_ad G 111), .int (mm_I 0), .int (mm_I 0), .int (mm_I 0)])) rfl rfl
set_option maxRecDepth 100000 in
theorem kf_111 (G : mm_G) (τ : Nat → va_E) : kE G τ 111 := kE_r (e := .inl (G.2.1 0, 30, .inl (fun _ => 0))) rfl rfl
set_option maxRecDepth 100000 in
theorem kf_112 (G : mm_G) (τ : Nat → va_E) : kE G τ 112 := kE_r (e := .inr (2, [.ref (mm_ad G 113), .int (mm_I 0), .int (mm_I 0), .int (mm_I 0)])) rfl rfl
set_option maxRecDepth 100000 in
theorem kf_113 (G : mm_G) (τ : Nat → va_E) : kE G τ 113 := kE_r (e := .inl (G.2.1 0, 30, .inl (fun _ => 0))) rfl rfl
set_option maxRecDepth 100000 in
theorem kf_114 (G : mm_G) (τ : Nat → va_E) : kE G τ 114 := kE_r (e := .inr (7, [.ref (mm_ad G 9), .ref (mm_ad G 19), .ref (mm_ad G 1), .ref (mm_ad G 115), .ref (mm_ad G 116), .ref (mm_ad G 117), .ref (mm_ad G 118), .int (mm_I 0), .int (mm_I 0)])) rfl rfl
theorem kr_115 : ∀ r, r < 30 → 115 + 5 + r = mm_rt 115 r := by decide +kernel
set_option maxRecDepth 100000 in
theorem kf_115 (G : mm_G) (τ : Nat → va_E) : kE G τ 115 := kE_q (f := (fun r => if r < 30 then some (mm_ad G (115 + 5 + r)) else none)) (f2 := fun r => some (mm_ad G (mm_rt 115 r))) rfl rfl (fun r hr => (if_pos hr).trans (congrArg (fun z => some (mm_ad G z)) (kr_115 r hr)))
theorem kr_116 : ∀ r, r < 3 → 115 + 35 + 2 * r = mm_rt 116 r := by decide +kernel
set_option maxRecDepth 100000 in
theorem kf_116 (G : mm_G) (τ : Nat → va_E) : kE G τ 116 := kE_q (f := (fun r => if r < 3 then some (mm_ad G (115 + 35 + 2 * r)) else none)) (f2 := fun r => some (mm_ad G (mm_rt 116 r))) rfl rfl (fun r hr => (if_pos hr).trans (congrArg (fun z => some (mm_ad G z)) (kr_116 r hr)))
set_option maxRecDepth 100000 in
theorem kf_117 (G : mm_G) (τ : Nat → va_E) : kE G τ 117 := kE_r (e := .inl (G.2.1 0, 35, .inl (fun _ => 0))) rfl rfl
set_option maxRecDepth 100000 in
theorem kf_118 (G : mm_G) (τ : Nat → va_E) : kE G τ 118 := kE_r (e := .inr (0, [.ref (mm_ad G 119), .int (mm_I 0)])) rfl rfl
set_option maxRecDepth 100000 in
theorem kf_119 (G : mm_G) (τ : Nat → va_E) : kE G τ 119 := kE_r (e := .inl (G.2.1 0, 100, .inl (fun _ => 0))) rfl rfl
set_option maxRecDepth 100000 in
theorem kf_120 (G : mm_G) (τ : Nat → va_E) : kE G τ 120 := kE_r (e := .inr (5, [.int (mm_I (-1)), .int (mm_I 0), .int (mm_I 0), .int (mm_I 0), .int (mm_I 0), .int (mm_I 0), .int (mm_I 0)])) rfl rfl
set_option maxRecDepth 100000 in
theorem kf_121 (G : mm_G) (τ : Nat → va_E) : kE G τ 121 := kE_r (e := .inr (5, [.int (mm_I (-1)), .int (mm_I 0), .int (mm_I 0), .int (mm_I 0), .int (mm_I 0), .int (mm_I 0), .int (mm_I 0)])) rfl rfl
set_option maxRecDepth 100000 in
theorem kf_122 (G : mm_G) (τ : Nat → va_E) : kE G τ 122 := kE_r (e := .inr (5, [.int (mm_I (-1)), .int (mm_I 0), .int (mm_I 0), .int (mm_I 0), .int (mm_I 0), .int (mm_I 0), .int (mm_I 0)])) rfl rfl
set_option maxRecDepth 100000 in
theorem kf_123 (G : mm_G) (τ : Nat → va_E) : kE G τ 123 := kE_r (e := .inr (5, [.int (mm_I (-1)), .int (mm_I 0), .int (mm_I 0), .int (mm_I 0), .int (mm_I 0), .int (mm_I 0), .int (mm_I 0)])) rfl rfl
set_option maxRecDepth 100000 in
theorem kf_124 (G : mm_G) (τ : Nat → va_E) : kE G τ 124 := kE_r (e := .inr (5, [.int (mm_I (-1)), .int (mm_I 0), .int (mm_I 0), .int (mm_I 0), .int (mm_I 0), .int (mm_I 0), .int (mm_I 0)])) rfl rfl
set_option maxRecDepth 100000 in
theorem kf_125 (G : mm_G) (τ : Nat → va_E) : kE G τ 125 := kE_r (e := .inr (5, [.int (mm_I (-1)), .int (mm_I 0), .int (mm_I 0), .int (mm_I 0), .int (mm_I 0), .int (mm_I 0), .int (mm_I 0)])) rfl rfl
set_option maxRecDepth 100000 in
theorem kf_126 (G : mm_G) (τ : Nat → va_E) : kE G τ 126 := kE_r (e := .inr (5, [.int (mm_I (-1)), .int (mm_I 0), .int (mm_I 0), .int (mm_I 0), .int (mm_I 0), .int (mm_I 0), .int (mm_I 0)])) rfl rfl
set_option maxRecDepth 100000 in
theorem kf_127 (G : mm_G) (τ : Nat → va_E) : kE G τ 127 := kE_r (e := .inr (5, [.int (mm_I (-1)), .int (mm_I 0), .int (mm_I 0), .int (mm_I 0), .int (mm_I 0), .int (mm_I 0), .int (mm_I 0)])) rfl rfl
set_option maxRecDepth 100000 in
theorem kf_128 (G : mm_G) (τ : Nat → va_E) : kE G τ 128 := kE_r (e := .inr (5, [.int (mm_I (-1)), .int (mm_I 0), .int (mm_I 0), .int (mm_I 0), .int (mm_I 0), .int (mm_I 0), .int (mm_I 0)])) rfl rfl
set_option maxRecDepth 100000 in
theorem kf_129 (G : mm_G) (τ : Nat → va_E) : kE G τ 129 := kE_r (e := .inr (5, [.int (mm_I (-1)), .int (mm_I 0), .int (mm_I 0), .int (mm_I 0), .int (mm_I 0), .int (mm_I 0), .int (mm_I 0)])) rfl rfl
set_option maxRecDepth 100000 in
theorem kf_130 (G : mm_G) (τ : Nat → va_E) : kE G τ 130 := kE_r (e := .inr (5, [.int (mm_I (-1)), .int (mm_I 0), .int (mm_I 0), .int (mm_I 0), .int (mm_I 0), .int (mm_I 0), .int (mm_I 0)])) rfl rfl
set_option maxRecDepth 100000 in
theorem kf_131 (G : mm_G) (τ : Nat → va_E) : kE G τ 131 := kE_r (e := .inr (5, [.int (mm_I (-1)), .int (mm_I 0), .int (mm_I 0), .int (mm_I 0), .int (mm_I 0), .int (mm_I 0), .int (mm_I 0)])) rfl rfl
set_option maxRecDepth 100000 in
theorem kf_132 (G : mm_G) (τ : Nat → va_E) : kE G τ 132 := kE_r (e := .inr (5, [.int (mm_I (-1)), .int (mm_I 0), .int (mm_I 0), .int (mm_I 0), .int (mm_I 0), .int (mm_I 0), .int (mm_I 0)])) rfl rfl
set_option maxRecDepth 100000 in
theorem kf_133 (G : mm_G) (τ : Nat → va_E) : kE G τ 133 := kE_r (e := .inr (5, [.int (mm_I (-1)), .int (mm_I 0), .int (mm_I 0), .int (mm_I 0), .int (mm_I 0), .int (mm_I 0), .int (mm_I 0)])) rfl rfl
set_option maxRecDepth 100000 in
theorem kf_134 (G : mm_G) (τ : Nat → va_E) : kE G τ 134 := kE_r (e := .inr (5, [.int (mm_I (-1)), .int (mm_I 0), .int (mm_I 0), .int (mm_I 0), .int (mm_I 0), .int (mm_I 0), .int (mm_I 0)])) rfl rfl
set_option maxRecDepth 100000 in
theorem kf_135 (G : mm_G) (τ : Nat → va_E) : kE G τ 135 := kE_r (e := .inr (5, [.int (mm_I (-1)), .int (mm_I 0), .int (mm_I 0), .int (mm_I 0), .int (mm_I 0), .int (mm_I 0), .int (mm_I 0)])) rfl rfl
set_option maxRecDepth 100000 in
theorem kf_136 (G : mm_G) (τ : Nat → va_E) : kE G τ 136 := kE_r (e := .inr (5, [.int (mm_I (-1)), .int (mm_I 0), .int (mm_I 0), .int (mm_I 0), .int (mm_I 0), .int (mm_I 0), .int (mm_I 0)])) rfl rfl
set_option maxRecDepth 100000 in
theorem kf_137 (G : mm_G) (τ : Nat → va_E) : kE G τ 137 := kE_r (e := .inr (5, [.int (mm_I (-1)), .int (mm_I 0), .int (mm_I 0), .int (mm_I 0), .int (mm_I 0), .int (mm_I 0), .int (mm_I 0)])) rfl rfl
set_option maxRecDepth 100000 in
theorem kf_138 (G : mm_G) (τ : Nat → va_E) : kE G τ 138 := kE_r (e := .inr (5, [.int (mm_I (-1)), .int (mm_I 0), .int (mm_I 0), .int (mm_I 0), .int (mm_I 0), .int (mm_I 0), .int (mm_I 0)])) rfl rfl
set_option maxRecDepth 100000 in
theorem kf_139 (G : mm_G) (τ : Nat → va_E) : kE G τ 139 := kE_r (e := .inr (5, [.int (mm_I (-1)), .int (mm_I 0), .int (mm_I 0), .int (mm_I 0), .int (mm_I 0), .int (mm_I 0), .int (mm_I 0)])) rfl rfl
set_option maxRecDepth 100000 in
theorem kf_140 (G : mm_G) (τ : Nat → va_E) : kE G τ 140 := kE_r (e := .inr (5, [.int (mm_I (-1)), .int (mm_I 0), .int (mm_I 0), .int (mm_I 0), .int (mm_I 0), .int (mm_I 0), .int (mm_I 0)])) rfl rfl
set_option maxRecDepth 100000 in
theorem kf_141 (G : mm_G) (τ : Nat → va_E) : kE G τ 141 := kE_r (e := .inr (5, [.int (mm_I (-1)), .int (mm_I 0), .int (mm_I 0), .int (mm_I 0), .int (mm_I 0), .int (mm_I 0), .int (mm_I 0)])) rfl rfl
set_option maxRecDepth 100000 in
theorem kf_142 (G : mm_G) (τ : Nat → va_E) : kE G τ 142 := kE_r (e := .inr (5, [.int (mm_I (-1)), .int (mm_I 0), .int (mm_I 0), .int (mm_I 0), .int (mm_I 0), .int (mm_I 0), .int (mm_I 0)])) rfl rfl
set_option maxRecDepth 100000 in
theorem kf_143 (G : mm_G) (τ : Nat → va_E) : kE G τ 143 := kE_r (e := .inr (5, [.int (mm_I (-1)), .int (mm_I 0), .int (mm_I 0), .int (mm_I 0), .int (mm_I 0), .int (mm_I 0), .int (mm_I 0)])) rfl rfl
set_option maxRecDepth 100000 in
theorem kf_144 (G : mm_G) (τ : Nat → va_E) : kE G τ 144 := kE_r (e := .inr (5, [.int (mm_I (-1)), .int (mm_I 0), .int (mm_I 0), .int (mm_I 0), .int (mm_I 0), .int (mm_I 0), .int (mm_I 0)])) rfl rfl
set_option maxRecDepth 100000 in
theorem kf_145 (G : mm_G) (τ : Nat → va_E) : kE G τ 145 := kE_r (e := .inr (5, [.int (mm_I (-1)), .int (mm_I 0), .int (mm_I 0), .int (mm_I 0), .int (mm_I 0), .int (mm_I 0), .int (mm_I 0)])) rfl rfl
set_option maxRecDepth 100000 in
theorem kf_146 (G : mm_G) (τ : Nat → va_E) : kE G τ 146 := kE_r (e := .inr (5, [.int (mm_I (-1)), .int (mm_I 0), .int (mm_I 0), .int (mm_I 0), .int (mm_I 0), .int (mm_I 0), .int (mm_I 0)])) rfl rfl
set_option maxRecDepth 100000 in
theorem kf_147 (G : mm_G) (τ : Nat → va_E) : kE G τ 147 := kE_r (e := .inr (5, [.int (mm_I (-1)), .int (mm_I 0), .int (mm_I 0), .int (mm_I 0), .int (mm_I 0), .int (mm_I 0), .int (mm_I 0)])) rfl rfl
set_option maxRecDepth 100000 in
theorem kf_148 (G : mm_G) (τ : Nat → va_E) : kE G τ 148 := kE_r (e := .inr (5, [.int (mm_I (-1)), .int (mm_I 0), .int (mm_I 0), .int (mm_I 0), .int (mm_I 0), .int (mm_I 0), .int (mm_I 0)])) rfl rfl
set_option maxRecDepth 100000 in
theorem kf_149 (G : mm_G) (τ : Nat → va_E) : kE G τ 149 := kE_r (e := .inr (5, [.int (mm_I (-1)), .int (mm_I 0), .int (mm_I 0), .int (mm_I 0), .int (mm_I 0), .int (mm_I 0), .int (mm_I 0)])) rfl rfl
set_option maxRecDepth 100000 in
theorem kf_150 (G : mm_G) (τ : Nat → va_E) : kE G τ 150 := kE_r (e := .inr (2, [.ref (mm_ad G 151), .int (mm_I 0), .int (mm_I 0), .int (mm_I 0)])) rfl rfl
set_option maxRecDepth 100000 in
theorem kf_151 (G : mm_G) (τ : Nat → va_E) : kE G τ 151 := kE_r (e := .inl (G.2.1 0, 30, .inl (fun _ => 0))) rfl rfl
set_option maxRecDepth 100000 in
theorem kf_152 (G : mm_G) (τ : Nat → va_E) : kE G τ 152 := kE_r (e := .inr (2, [.ref (mm_ad G 153), .int (mm_I 0), .int (mm_I 0), .int (mm_I 0)])) rfl rfl
set_option maxRecDepth 100000 in
theorem kf_153 (G : mm_G) (τ : Nat → va_E) : kE G τ 153 := kE_r (e := .inl (G.2.1 0, 30, .inl (fun _ => 0))) rfl rfl
set_option maxRecDepth 100000 in
theorem kf_154 (G : mm_G) (τ : Nat → va_E) : kE G τ 154 := kE_r (e := .inr (2, [.ref (mm_ad G 155), .int (mm_I 0), .int (mm_I 0), .int (mm_I 0)])) rfl rfl
set_option maxRecDepth 100000 in
theorem kf_155 (G : mm_G) (τ : Nat → va_E) : kE G τ 155 := kE_r (e := .inl (G.2.1 0, 30, .inl (fun _ => 0))) rfl rfl
set_option maxRecDepth 100000 in
theorem kf_156 (G : mm_G) (τ : Nat → va_E) : kE G τ 156 := kE_r (e := .inr (7, [.ref (mm_ad G 9), .ref (mm_ad G 19), .ref (mm_ad G 1), .ref (mm_ad G 157), .ref (mm_ad G 158), .ref (mm_ad G 159), .ref (mm_ad G 160), .int (mm_I 0), .int (mm_I 0)])) rfl rfl
theorem kr_157 : ∀ r, r < 30 → 157 + 5 + r = mm_rt 157 r := by decide +kernel
set_option maxRecDepth 100000 in
theorem kf_157 (G : mm_G) (τ : Nat → va_E) : kE G τ 157 := kE_q (f := (fun r => if r < 30 then some (mm_ad G (157 + 5 + r)) else none)) (f2 := fun r => some (mm_ad G (mm_rt 157 r))) rfl rfl (fun r hr => (if_pos hr).trans (congrArg (fun z => some (mm_ad G z)) (kr_157 r hr)))
theorem kr_158 : ∀ r, r < 3 → 157 + 35 + 2 * r = mm_rt 158 r := by decide +kernel
set_option maxRecDepth 100000 in
theorem kf_158 (G : mm_G) (τ : Nat → va_E) : kE G τ 158 := kE_q (f := (fun r => if r < 3 then some (mm_ad G (157 + 35 + 2 * r)) else none)) (f2 := fun r => some (mm_ad G (mm_rt 158 r))) rfl rfl (fun r hr => (if_pos hr).trans (congrArg (fun z => some (mm_ad G z)) (kr_158 r hr)))
set_option maxRecDepth 100000 in
theorem kf_159 (G : mm_G) (τ : Nat → va_E) : kE G τ 159 := kE_r (e := .inl (G.2.1 0, 35, .inl (fun _ => 0))) rfl rfl
set_option maxRecDepth 100000 in
theorem kf_160 (G : mm_G) (τ : Nat → va_E) : kE G τ 160 := kE_r (e := .inr (0, [.ref (mm_ad G 161), .int (mm_I 0)])) rfl rfl
set_option maxRecDepth 100000 in
theorem kf_161 (G : mm_G) (τ : Nat → va_E) : kE G τ 161 := kE_r (e := .inl (G.2.1 0, 100, .inl (fun _ => 0))) rfl rfl
set_option maxRecDepth 100000 in
theorem kf_162 (G : mm_G) (τ : Nat → va_E) : kE G τ 162 := kE_r (e := .inr (5, [.int (mm_I (-1)), .int (mm_I 0), .int (mm_I 0), .int (mm_I 0), .int (mm_I 0), .int (mm_I 0), .int (mm_I 0)])) rfl rfl
set_option maxRecDepth 100000 in
theorem kf_163 (G : mm_G) (τ : Nat → va_E) : kE G τ 163 := kE_r (e := .inr (5, [.int (mm_I (-1)), .int (mm_I 0), .int (mm_I 0), .int (mm_I 0), .int (mm_I 0), .int (mm_I 0), .int (mm_I 0)])) rfl rfl
set_option maxRecDepth 100000 in
theorem kf_164 (G : mm_G) (τ : Nat → va_E) : kE G τ 164 := kE_r (e := .inr (5, [.int (mm_I (-1)), .int (mm_I 0), .int (mm_I 0), .int (mm_I 0), .int (mm_I 0), .int (mm_I 0), .int (mm_I 0)])) rfl rfl
set_option maxRecDepth 100000 in
theorem kf_165 (G : mm_G) (τ : Nat → va_E) : kE G τ 165 := kE_r (e := .inr (5, [.int (mm_I (-1)), .int (mm_I 0), .int (mm_I 0), .int (mm_I 0), .int (mm_I 0), .int (mm_I 0), .int (mm_I 0)])) rfl rfl
set_option maxRecDepth 100000 in
theorem kf_166 (G : mm_G) (τ : Nat → va_E) : kE G τ 166 := kE_r (e := .inr (5, [.int (mm_I (-1)), .int (mm_I 0), .int (mm_I 0), .int (mm_I 0), .int (mm_I 0), .int (mm_I 0), .int (mm_I 0)])) rfl rfl
set_option maxRecDepth 100000 in
theorem kf_167 (G : mm_G) (τ : Nat → va_E) : kE G τ 167 := kE_r (e := .inr (5, [.int (mm_I (-1)), .int (mm_I 0), .int (mm_I 0), .int (mm_I 0), .int (mm_I 0), .int (mm_I 0), .int (mm_I 0)])) rfl rfl
set_option maxRecDepth 100000 in
theorem kf_168 (G : mm_G) (τ : Nat → va_E) : kE G τ 168 := kE_r (e := .inr (5, [.int (mm_I (-1)), .int (mm_I 0), .int (mm_I 0), .int (mm_I 0), .int (mm_I 0), .int (mm_I 0), .int (mm_I 0)])) rfl rfl
set_option maxRecDepth 100000 in
theorem kf_169 (G : mm_G) (τ : Nat → va_E) : kE G τ 169 := kE_r (e := .inr (5, [.int (mm_I (-1)), .int (mm_I 0), .int (mm_I 0), .int (mm_I 0), .int (mm_I 0), .int (mm_I 0), .int (mm_I 0)])) rfl rfl
set_option maxRecDepth 100000 in
theorem kf_170 (G : mm_G) (τ : Nat → va_E) : kE G τ 170 := kE_r (e := .inr (5, [.int (mm_I (-1)), .int (mm_I 0), .int (mm_I 0), .int (mm_I 0), .int (mm_I 0), .int (mm_I 0), .int (mm_I 0)])) rfl rfl
set_option maxRecDepth 100000 in
theorem kf_171 (G : mm_G) (τ : Nat → va_E) : kE G τ 171 := kE_r (e := .inr (5, [.int (mm_I (-1)), .int (mm_I 0), .int (mm_I 0), .int (mm_I 0), .int (mm_I 0), .int (mm_I 0), .int (mm_I 0)])) rfl rfl
set_option maxRecDepth 100000 in
theorem kf_172 (G : mm_G) (τ : Nat → va_E) : kE G τ 172 := kE_r (e := .inr (5, [.int (mm_I (-1)), .int (mm_I 0), .int (mm_I 0), .int (mm_I 0), .int (mm_I 0), .int (mm_I 0), .int (mm_I 0)])) rfl rfl
set_option maxRecDepth 100000 in
theorem kf_173 (G : mm_G) (τ : Nat → va_E) : kE G τ 173 := kE_r (e := .inr (5, [.int (mm_I (-1)), .int (mm_I 0), .int (mm_I 0), .int (mm_I 0), .int (mm_I 0), .int (mm_I 0), .int (mm_I 0)])) rfl rfl
set_option maxRecDepth 100000 in
theorem kf_174 (G : mm_G) (τ : Nat → va_E) : kE G τ 174 := kE_r (e := .inr (5, [.int (mm_I (-1)), .int (mm_I 0), .int (mm_I 0), .int (mm_I 0), .int (mm_I 0), .int (mm_I 0), .int (mm_I 0)])) rfl rfl
set_option maxRecDepth 100000 in
theorem kf_175 (G : mm_G) (τ : Nat → va_E) : kE G τ 175 := kE_r (e := .inr (5, [.int (mm_I (-1)), .int (mm_I 0), .int (mm_I 0), .int (mm_I 0), .int (mm_I 0), .int (mm_I 0), .int (mm_I 0)])) rfl rfl
set_option maxRecDepth 100000 in
theorem kf_176 (G : mm_G) (τ : Nat → va_E) : kE G τ 176 := kE_r (e := .inr (5, [.int (mm_I (-1)), .int (mm_I 0), .int (mm_I 0), .int (mm_I 0), .int (mm_I 0), .int (mm_I 0), .int (mm_I 0)])) rfl rfl
set_option maxRecDepth 100000 in
theorem kf_177 (G : mm_G) (τ : Nat → va_E) : kE G τ 177 := kE_r (e := .inr (5, [.int (mm_I (-1)), .int (mm_I 0), .int (mm_I 0), .int (mm_I 0), .int (mm_I 0), .int (mm_I 0), .int (mm_I 0)])) rfl rfl
set_option maxRecDepth 100000 in
theorem kf_178 (G : mm_G) (τ : Nat → va_E) : kE G τ 178 := kE_r (e := .inr (5, [.int (mm_I (-1)), .int (mm_I 0), .int (mm_I 0), .int (mm_I 0), .int (mm_I 0), .int (mm_I 0), .int (mm_I 0)])) rfl rfl
set_option maxRecDepth 100000 in
theorem kf_179 (G : mm_G) (τ : Nat → va_E) : kE G τ 179 := kE_r (e := .inr (5, [.int (mm_I (-1)), .int (mm_I 0), .int (mm_I 0), .int (mm_I 0), .int (mm_I 0), .int (mm_I 0), .int (mm_I 0)])) rfl rfl
set_option maxRecDepth 100000 in
theorem kf_180 (G : mm_G) (τ : Nat → va_E) : kE G τ 180 := kE_r (e := .inr (5, [.int (mm_I (-1)), .int (mm_I 0), .int (mm_I 0), .int (mm_I 0), .int (mm_I 0), .int (mm_I 0), .int (mm_I 0)])) rfl rfl
set_option maxRecDepth 100000 in
theorem kf_181 (G : mm_G) (τ : Nat → va_E) : kE G τ 181 := kE_r (e := .inr (5, [.int (mm_I (-1)), .int (mm_I 0), .int (mm_I 0), .int (mm_I 0), .int (mm_I 0), .int (mm_I 0), .int (mm_I 0)])) rfl rfl
set_option maxRecDepth 100000 in
theorem kf_182 (G : mm_G) (τ : Nat → va_E) : kE G τ 182 := kE_r (e := .inr (5, [.int (mm_I (-1)), .int (mm_I 0), .int (mm_I 0), .int (mm_I 0), .int (mm_I 0), .int (mm_I 0), .int (mm_I 0)])) rfl rfl
set_option maxRecDepth 100000 in
theorem kf_183 (G : mm_G) (τ : Nat → va_E) : kE G τ 183 := kE_r (e := .inr (5, [.int (mm_I (-1)), .int (mm_I 0), .int (mm_I 0), .int (mm_I 0), .int (mm_I 0), .int (mm_I 0), .int (mm_I 0)])) rfl rfl
set_option maxRecDepth 100000 in
theorem kf_184 (G : mm_G) (τ : Nat → va_E) : kE G τ 184 := kE_r (e := .inr (5, [.int (mm_I (-1)), .int (mm_I 0), .int (mm_I 0), .int (mm_I 0), .int (mm_I 0), .int (mm_I 0), .int (mm_I 0)])) rfl rfl
set_option maxRecDepth 100000 in
theorem kf_185 (G : mm_G) (τ : Nat → va_E) : kE G τ 185 := kE_r (e := .inr (5, [.int (mm_I (-1)), .int (mm_I 0), .int (mm_I 0), .int (mm_I 0), .int (mm_I 0), .int (mm_I 0), .int (mm_I 0)])) rfl rfl
set_option maxRecDepth 100000 in
theorem kf_186 (G : mm_G) (τ : Nat → va_E) : kE G τ 186 := kE_r (e := .inr (5, [.int (mm_I (-1)), .int (mm_I 0), .int (mm_I 0), .int (mm_I 0), .int (mm_I 0), .int (mm_I 0), .int (mm_I 0)])) rfl rfl
set_option maxRecDepth 100000 in
theorem kf_187 (G : mm_G) (τ : Nat → va_E) : kE G τ 187 := kE_r (e := .inr (5, [.int (mm_I (-1)), .int (mm_I 0), .int (mm_I 0), .int (mm_I 0), .int (mm_I 0), .int (mm_I 0), .int (mm_I 0)])) rfl rfl
set_option maxRecDepth 100000 in
theorem kf_188 (G : mm_G) (τ : Nat → va_E) : kE G τ 188 := kE_r (e := .inr (5, [.int (mm_I (-1)), .int (mm_I 0), .int (mm_I 0), .int (mm_I 0), .int (mm_I 0), .int (mm_I 0), .int (mm_I 0)])) rfl rfl
set_option maxRecDepth 100000 in
theorem kf_189 (G : mm_G) (τ : Nat → va_E) : kE G τ 189 := kE_r (e := .inr (5, [.int (mm_I (-1)), .int (mm_I 0), .int (mm_I 0), .int (mm_I 0), .int (mm_I 0), .int (mm_I 0), .int (mm_I 0)])) rfl rfl
set_option maxRecDepth 100000 in
theorem kf_190 (G : mm_G) (τ : Nat → va_E) : kE G τ 190 := kE_r (e := .inr (5, [.int (mm_I (-1)), .int (mm_I 0), .int (mm_I 0), .int (mm_I 0), .int (mm_I 0), .int (mm_I 0), .int (mm_I 0)])) rfl rfl
set_option maxRecDepth 100000 in
theorem kf_191 (G : mm_G) (τ : Nat → va_E) : kE G τ 191 := kE_r (e := .inr (5, [.int (mm_I (-1)), .int (mm_I 0), .int (mm_I 0), .int (mm_I 0), .int (mm_I 0), .int (mm_I 0), .int (mm_I 0)])) rfl rfl
set_option maxRecDepth 100000 in
theorem kf_192 (G : mm_G) (τ : Nat → va_E) : kE G τ 192 := kE_r (e := .inr (2, [.ref (mm_ad G 193), .int (mm_I 0), .int (mm_I 0), .int (mm_I 0)])) rfl rfl
set_option maxRecDepth 100000 in
theorem kf_193 (G : mm_G) (τ : Nat → va_E) : kE G τ 193 := kE_r (e := .inl (G.2.1 0, 30, .inl (fun _ => 0))) rfl rfl
set_option maxRecDepth 100000 in
theorem kf_194 (G : mm_G) (τ : Nat → va_E) : kE G τ 194 := kE_r (e := .inr (2, [.ref (mm_ad G 195), .int (mm_I 0), .int (mm_I 0), .int (mm_I 0)])) rfl rfl
set_option maxRecDepth 100000 in
theorem kf_195 (G : mm_G) (τ : Nat → va_E) : kE G τ 195 := kE_r (e := .inl (G.2.1 0, 30, .inl (fun _ => 0))) rfl rfl
set_option maxRecDepth 100000 in
theorem kf_196 (G : mm_G) (τ : Nat → va_E) : kE G τ 196 := kE_r (e := .inr (2, [.ref (mm_ad G 197), .int (mm_I 0), .int (mm_I 0), .int (mm_I 0)])) rfl rfl
set_option maxRecDepth 100000 in
theorem kf_197 (G : mm_G) (τ : Nat → va_E) : kE G τ 197 := kE_r (e := .inl (G.2.1 0, 30, .inl (fun _ => 0))) rfl rfl
set_option maxRecDepth 100000 in
theorem kf_198 (G : mm_G) (τ : Nat → va_E) : kE G τ 198 := kE_r (e := .inl (G.2.1 2, 3, .inl (fun _ => 0))) rfl rfl
set_option maxRecDepth 100000 in
theorem kf_199 (G : mm_G) (τ : Nat → va_E) : kE G τ 199 := kE_r (e := .inr (6, [.ref (mm_ad G 19), .ref (mm_ad G 1), .ref (mm_ad G 200), .ref (mm_ad G 201), .ref (mm_ad G 202), .ref (mm_ad G 203), .ref (mm_ad G 204), .ref (mm_ad G 205), .int (mm_I 0)])) rfl rfl
set_option maxRecDepth 100000 in
theorem kf_200 (G : mm_G) (τ : Nat → va_E) : kE G τ 200 := kE_r (e := .inl (G.2.1 0, 8, .inl (fun _ => 0))) rfl rfl
set_option maxRecDepth 100000 in
theorem kf_201 (G : mm_G) (τ : Nat → va_E) : kE G τ 201 := kE_r (e := .inl (G.2.1 0, 8, .inl (fun _ => 0))) rfl rfl
set_option maxRecDepth 100000 in
theorem kf_202 (G : mm_G) (τ : Nat → va_E) : kE G τ 202 := kE_r (e := .inl (G.2.1 0, 8, .inl (fun _ => 0))) rfl rfl
set_option maxRecDepth 100000 in
theorem kf_203 (G : mm_G) (τ : Nat → va_E) : kE G τ 203 := kE_r (e := .inl (G.2.1 0, 8, .inl (fun _ => 0))) rfl rfl
set_option maxRecDepth 100000 in
theorem kf_204 (G : mm_G) (τ : Nat → va_E) : kE G τ 204 := kE_r (e := .inl (G.2.1 0, 8, .inl (fun _ => 0))) rfl rfl
set_option maxRecDepth 100000 in
theorem kf_205 (G : mm_G) (τ : Nat → va_E) : kE G τ 205 := kE_r (e := .inl (G.2.1 0, 256, .inl (fun _ => 0))) rfl rfl
set_option maxRecDepth 100000 in
theorem kf_206 (G : mm_G) (τ : Nat → va_E) : kE G τ 206 := kE_r (e := .inr (4, [.ref (mm_ad G 207), .ref (mm_ad G 208), .ref (mm_ad G 209), .ref (mm_ad G 210), .int (mm_I 0), .int (mm_I 0), .int (mm_I 0), .int (mm_I 0), .int (mm_I 0), .int (mm_I 0), .int (mm_I 0), .int (mm_I 0)])) rfl rfl
set_option maxRecDepth 100000 in
theorem kf_207 (G : mm_G) (τ : Nat → va_E) : kE G τ 207 := kE_r (e := .inl (G.2.1 0, 169, .inl (fun _ => 0))) rfl rfl
set_option maxRecDepth 100000 in
theorem kf_208 (G : mm_G) (τ : Nat → va_E) : kE G τ 208 := kE_r (e := .inl (G.2.1 0, 169, .inl (fun _ => 0))) rfl rfl
set_option maxRecDepth 100000 in
theorem kf_209 (G : mm_G) (τ : Nat → va_E) : kE G τ 209 := kE_r (e := .inl (G.2.1 0, 169, .inl (fun _ => 0))) rfl rfl
set_option maxRecDepth 100000 in
theorem kf_210 (G : mm_G) (τ : Nat → va_E) : kE G τ 210 := kE_r (e := .inl (G.2.1 0, 6, .inl (fun _ => 0))) rfl rfl
set_option maxRecDepth 100000 in
theorem kf_211 (G : mm_G) (τ : Nat → va_E) : kE G τ 211 := kE_r (e := .inr (11, [.ref (mm_ad G 212), .int (mm_I 0), .int (mm_I 0), .int (mm_I 0), .int (mm_I 0), .long (mm_L 0), .int (mm_I 0), .ref (mm_ad G 213), .int (mm_I 0), .ref (mm_ad G 214), .ref (mm_ad G 215), .ref (mm_ad G 216), .int (mm_I 0), .ref (mm_ad G 217), .int (mm_I 0), .ref (mm_ad G 218), .int (mm_I 0), .int (mm_I 0), .int (mm_I 0), .int (mm_I 0), .int (mm_I 0), .ref (mm_ad G 219), .ref (mm_ad G 220), .ref (mm_ad G 221), .int (mm_I 0), .ref (mm_ad G 222), .ref (mm_ad G 223), .ref (mm_ad G 224), .int (mm_I 0), .ref (mm_ad G 225), .ref (mm_ad G 226), .ref (mm_ad G 227), .ref (mm_ad G 228), .ref (mm_ad G 229), .ref (mm_ad G 230), .int (mm_I 0), .ref (mm_ad G 231), .long (mm_L 0), .int (mm_I 0), .ref (mm_ad G 232), .ref (mm_ad G 233), .ref (mm_ad G 234), .ref (mm_ad G 235), .ref (mm_ad G 236), .int (mm_I 0), .ref (mm_ad G 237), .int (mm_I 0), .ref (mm_ad G 238), .ref (mm_ad G 239), .ref (mm_ad G 240), .ref (mm_ad G 241), .int (mm_I 0), .ref (mm_ad G 242), .ref (mm_ad G 243), .int (mm_I 0), .int (mm_I 0), .ref (mm_ad G 244), .ref (mm_ad G 245), .ref (mm_ad G 246), .int (mm_I 0), .int (mm_I 0), .int (mm_I 0), .int (mm_I 0), .int (mm_I 0), .int (mm_I 0)])) rfl rfl
set_option maxRecDepth 100000 in
theorem kf_212 (G : mm_G) (τ : Nat → va_E) : kE G τ 212 := kE_r (e := .inl (G.2.1 1, 500, .inl (fun _ => 0))) rfl rfl
set_option maxRecDepth 100000 in
theorem kf_213 (G : mm_G) (τ : Nat → va_E) : kE G τ 213 := kE_r (e := .inl (G.2.1 0, 9, .inl (fun _ => 0))) rfl rfl
set_option maxRecDepth 100000 in
theorem kf_214 (G : mm_G) (τ : Nat → va_E) : kE G τ 214 := kE_r (e := .inl (G.2.1 3, 5, .inr (.inl (fun _ => 0)))) rfl rfl
set_option maxRecDepth 100000 in
theorem kf_215 (G : mm_G) (τ : Nat → va_E) : kE G τ 215 := kE_r (e := .inl (G.2.1 0, 30, .inl (fun _ => 0))) rfl rfl
set_option maxRecDepth 100000 in
theorem kf_216 (G : mm_G) (τ : Nat → va_E) : kE G τ 216 := kE_r (e := .inl (G.2.1 0, 3, .inl (fun _ => 0))) rfl rfl
set_option maxRecDepth 100000 in
theorem kf_217 (G : mm_G) (τ : Nat → va_E) : kE G τ 217 := kE_r (e := .inl (G.2.1 0, 9, .inl (fun _ => 0))) rfl rfl
set_option maxRecDepth 100000 in
theorem kf_218 (G : mm_G) (τ : Nat → va_E) : kE G τ 218 := kE_r (e := .inl (G.2.1 0, 30, .inl (fun _ => 0))) rfl rfl
set_option maxRecDepth 100000 in
theorem kf_219 (G : mm_G) (τ : Nat → va_E) : kE G τ 219 := kE_r (e := .inl (G.2.1 0, 1200, .inl (fun _ => 0))) rfl rfl
set_option maxRecDepth 100000 in
theorem kf_220 (G : mm_G) (τ : Nat → va_E) : kE G τ 220 := kE_r (e := .inl (G.2.1 0, 6, .inl (fun _ => 0))) rfl rfl
set_option maxRecDepth 100000 in
theorem kf_221 (G : mm_G) (τ : Nat → va_E) : kE G τ 221 := kE_r (e := .inl (G.2.1 2, 5, .inl (fun _ => 0))) rfl rfl
set_option maxRecDepth 100000 in
theorem kf_222 (G : mm_G) (τ : Nat → va_E) : kE G τ 222 := kE_r (e := .inl (G.2.1 0, 1200, .inl (fun _ => 0))) rfl rfl
set_option maxRecDepth 100000 in
theorem kf_223 (G : mm_G) (τ : Nat → va_E) : kE G τ 223 := kE_r (e := .inl (G.2.1 0, 6, .inl (fun _ => 0))) rfl rfl
set_option maxRecDepth 100000 in
theorem kf_224 (G : mm_G) (τ : Nat → va_E) : kE G τ 224 := kE_r (e := .inl (G.2.1 2, 5, .inl (fun _ => 0))) rfl rfl
set_option maxRecDepth 100000 in
theorem kf_225 (G : mm_G) (τ : Nat → va_E) : kE G τ 225 := kE_r (e := .inl (G.2.1 0, 3, .inl (fun _ => 0))) rfl rfl
set_option maxRecDepth 100000 in
theorem kf_226 (G : mm_G) (τ : Nat → va_E) : kE G τ 226 := kE_r (e := .inl (G.2.1 0, 3, .inl (fun _ => 0))) rfl rfl
set_option maxRecDepth 100000 in
theorem kf_227 (G : mm_G) (τ : Nat → va_E) : kE G τ 227 := kE_r (e := .inl (G.2.1 0, 3, .inl (fun _ => 0))) rfl rfl
set_option maxRecDepth 100000 in
theorem kf_228 (G : mm_G) (τ : Nat → va_E) : kE G τ 228 := kE_r (e := .inl (G.2.1 0, 90, .inl (fun _ => 0))) rfl rfl
set_option maxRecDepth 100000 in
theorem kf_229 (G : mm_G) (τ : Nat → va_E) : kE G τ 229 := kE_r (e := .inl (G.2.1 0, 210, .inl (fun _ => 0))) rfl rfl
set_option maxRecDepth 100000 in
theorem kf_230 (G : mm_G) (τ : Nat → va_E) : kE G τ 230 := kE_r (e := .inl (G.2.1 0, 35, .inl (fun _ => 0))) rfl rfl
set_option maxRecDepth 100000 in
theorem kf_231 (G : mm_G) (τ : Nat → va_E) : kE G τ 231 := kE_r (e := .inl (G.2.1 0, 100, .inl (fun _ => 0))) rfl rfl
set_option maxRecDepth 100000 in
theorem kf_232 (G : mm_G) (τ : Nat → va_E) : kE G τ 232 := kE_r (e := .inl (G.2.1 0, 8, .inl (fun _ => 0))) rfl rfl
set_option maxRecDepth 100000 in
theorem kf_233 (G : mm_G) (τ : Nat → va_E) : kE G τ 233 := kE_r (e := .inl (G.2.1 0, 8, .inl (fun _ => 0))) rfl rfl
set_option maxRecDepth 100000 in
theorem kf_234 (G : mm_G) (τ : Nat → va_E) : kE G τ 234 := kE_r (e := .inl (G.2.1 2, 3, .inl (fun _ => 0))) rfl rfl
set_option maxRecDepth 100000 in
theorem kf_235 (G : mm_G) (τ : Nat → va_E) : kE G τ 235 := kE_r (e := .inl (G.2.1 0, 1338, .inl (fun _ => 0))) rfl rfl
set_option maxRecDepth 100000 in
theorem kf_236 (G : mm_G) (τ : Nat → va_E) : kE G τ 236 := kE_r (e := .inl (G.2.1 3, 3, .inr (.inl (fun _ => 0)))) rfl rfl
set_option maxRecDepth 100000 in
theorem kf_237 (G : mm_G) (τ : Nat → va_E) : kE G τ 237 := kE_r (e := .inl (G.2.1 0, 600, .inl (fun _ => 0))) rfl rfl
set_option maxRecDepth 100000 in
theorem kf_238 (G : mm_G) (τ : Nat → va_E) : kE G τ 238 := kE_r (e := .inl (G.2.1 2, 9, .inl (fun _ => 0))) rfl rfl
set_option maxRecDepth 100000 in
theorem kf_239 (G : mm_G) (τ : Nat → va_E) : kE G τ 239 := kE_r (e := .inl (G.2.1 0, 10, .inl (fun _ => 0))) rfl rfl
set_option maxRecDepth 100000 in
theorem kf_240 (G : mm_G) (τ : Nat → va_E) : kE G τ 240 := kE_r (e := .inl (G.2.1 0, 600, .inl (fun _ => 0))) rfl rfl
set_option maxRecDepth 100000 in
theorem kf_241 (G : mm_G) (τ : Nat → va_E) : kE G τ 241 := kE_r (e := .inl (G.2.1 0, 8, .inl (fun _ => 0))) rfl rfl
set_option maxRecDepth 100000 in
theorem kf_242 (G : mm_G) (τ : Nat → va_E) : kE G τ 242 := kE_r (e := .inl (G.2.1 0, 8, .inl (fun _ => 0))) rfl rfl
set_option maxRecDepth 100000 in
theorem kf_243 (G : mm_G) (τ : Nat → va_E) : kE G τ 243 := kE_r (e := .inl (G.2.1 0, 8, .inl (fun _ => 0))) rfl rfl
set_option maxRecDepth 100000 in
theorem kf_244 (G : mm_G) (τ : Nat → va_E) : kE G τ 244 := kE_r (e := .inl (G.2.1 0, 256, .inl (fun _ => 0))) rfl rfl
set_option maxRecDepth 100000 in
theorem kf_245 (G : mm_G) (τ : Nat → va_E) : kE G τ 245 := kE_r (e := .inl (G.2.1 3, 256, .inr (.inl (fun _ => 0)))) rfl rfl
set_option maxRecDepth 100000 in
theorem kf_246 (G : mm_G) (τ : Nat → va_E) : kE G τ 246 := kE_r (e := .inl (G.2.1 0, 20449, .inl (fun _ => 0))) rfl rfl
theorem kfl_13 (G : mm_G) (τ : Nat → va_E) : ∀ k, k < 13 → kE G τ k := lt_s (lt_s (lt_s (lt_s (lt_s (lt_s (lt_s (lt_s (lt_s (lt_s (lt_s (lt_s (lt_s (lt_0) (kf_0 G τ)) (kf_1 G τ)) (kf_2 G τ)) (kf_3 G τ)) (kf_4 G τ)) (kf_5 G τ)) (kf_6 G τ)) (kf_7 G τ)) (kf_8 G τ)) (kf_9 G τ)) (kf_10 G τ)) (kf_11 G τ)) (kf_12 G τ)
theorem kfl_26 (G : mm_G) (τ : Nat → va_E) : ∀ k, k < 26 → kE G τ k := lt_s (lt_s (lt_s (lt_s (lt_s (lt_s (lt_s (lt_s (lt_s (lt_s (lt_s (lt_s (lt_s (kfl_13 G τ) (kf_13 G τ)) (kf_14 G τ)) (kf_15 G τ)) (kf_16 G τ)) (kf_17 G τ)) (kf_18 G τ)) (kf_19 G τ)) (kf_20 G τ)) (kf_21 G τ)) (kf_22 G τ)) (kf_23 G τ)) (kf_24 G τ)) (kf_25 G τ)
theorem kfl_39 (G : mm_G) (τ : Nat → va_E) : ∀ k, k < 39 → kE G τ k := lt_s (lt_s (lt_s (lt_s (lt_s (lt_s (lt_s (lt_s (lt_s (lt_s (lt_s (lt_s (lt_s (kfl_26 G τ) (kf_26 G τ)) (kf_27 G τ)) (kf_28 G τ)) (kf_29 G τ)) (kf_30 G τ)) (kf_31 G τ)) (kf_32 G τ)) (kf_33 G τ)) (kf_34 G τ)) (kf_35 G τ)) (kf_36 G τ)) (kf_37 G τ)) (kf_38 G τ)
theorem kfl_52 (G : mm_G) (τ : Nat → va_E) : ∀ k, k < 52 → kE G τ k := lt_s (lt_s (lt_s (lt_s (lt_s (lt_s (lt_s (lt_s (lt_s (lt_s (lt_s (lt_s (lt_s (kfl_39 G τ) (kf_39 G τ)) (kf_40 G τ)) (kf_41 G τ)) (kf_42 G τ)) (kf_43 G τ)) (kf_44 G τ)) (kf_45 G τ)) (kf_46 G τ)) (kf_47 G τ)) (kf_48 G τ)) (kf_49 G τ)) (kf_50 G τ)) (kf_51 G τ)
theorem kfl_65 (G : mm_G) (τ : Nat → va_E) : ∀ k, k < 65 → kE G τ k := lt_s (lt_s (lt_s (lt_s (lt_s (lt_s (lt_s (lt_s (lt_s (lt_s (lt_s (lt_s (lt_s (kfl_52 G τ) (kf_52 G τ)) (kf_53 G τ)) (kf_54 G τ)) (kf_55 G τ)) (kf_56 G τ)) (kf_57 G τ)) (kf_58 G τ)) (kf_59 G τ)) (kf_60 G τ)) (kf_61 G τ)) (kf_62 G τ)) (kf_63 G τ)) (kf_64 G τ)
theorem kfl_78 (G : mm_G) (τ : Nat → va_E) : ∀ k, k < 78 → kE G τ k := lt_s (lt_s (lt_s (lt_s (lt_s (lt_s (lt_s (lt_s (lt_s (lt_s (lt_s (lt_s (lt_s (kfl_65 G τ) (kf_65 G τ)) (kf_66 G τ)) (kf_67 G τ)) (kf_68 G τ)) (kf_69 G τ)) (kf_70 G τ)) (kf_71 G τ)) (kf_72 G τ)) (kf_73 G τ)) (kf_74 G τ)) (kf_75 G τ)) (kf_76 G τ)) (kf_77 G τ)
theorem kfl_91 (G : mm_G) (τ : Nat → va_E) : ∀ k, k < 91 → kE G τ k := lt_s (lt_s (lt_s (lt_s (lt_s (lt_s (lt_s (lt_s (lt_s (lt_s (lt_s (lt_s (lt_s (kfl_78 G τ) (kf_78 G τ)) (kf_79 G τ)) (kf_80 G τ)) (kf_81 G τ)) (kf_82 G τ)) (kf_83 G τ)) (kf_84 G τ)) (kf_85 G τ)) (kf_86 G τ)) (kf_87 G τ)) (kf_88 G τ)) (kf_89 G τ)) (kf_90 G τ)
theorem kfl_104 (G : mm_G) (τ : Nat → va_E) : ∀ k, k < 104 → kE G τ k := lt_s (lt_s (lt_s (lt_s (lt_s (lt_s (lt_s (lt_s (lt_s (lt_s (lt_s (lt_s (lt_s (kfl_91 G τ) (kf_91 G τ)) (kf_92 G τ)) (kf_93 G τ)) (kf_94 G τ)) (kf_95 G τ)) (kf_96 G τ)) (kf_97 G τ)) (kf_98 G τ)) (kf_99 G τ)) (kf_100 G τ)) (kf_101 G τ)) (kf_102 G τ)) (kf_103 G τ)
theorem kfl_117 (G : mm_G) (τ : Nat → va_E) : ∀ k, k < 117 → kE G τ k := lt_s (lt_s (lt_s (lt_s (lt_s (lt_s (lt_s (lt_s (lt_s (lt_s (lt_s (lt_s (lt_s (kfl_104 G τ) (kf_104 G τ)) (kf_105 G τ)) (kf_106 G τ)) (kf_107 G τ)) (kf_108 G τ)) (kf_109 G τ)) (kf_110 G τ)) (kf_111 G τ)) (kf_112 G τ)) (kf_113 G τ)) (kf_114 G τ)) (kf_115 G τ)) (kf_116 G τ)
theorem kfl_130 (G : mm_G) (τ : Nat → va_E) : ∀ k, k < 130 → kE G τ k := lt_s (lt_s (lt_s (lt_s (lt_s (lt_s (lt_s (lt_s (lt_s (lt_s (lt_s (lt_s (lt_s (kfl_117 G τ) (kf_117 G τ)) (kf_118 G τ)) (kf_119 G τ)) (kf_120 G τ)) (kf_121 G τ)) (kf_122 G τ)) (kf_123 G τ)) (kf_124 G τ)) (kf_125 G τ)) (kf_126 G τ)) (kf_127 G τ)) (kf_128 G τ)) (kf_129 G τ)
theorem kfl_143 (G : mm_G) (τ : Nat → va_E) : ∀ k, k < 143 → kE G τ k := lt_s (lt_s (lt_s (lt_s (lt_s (lt_s (lt_s (lt_s (lt_s (lt_s (lt_s (lt_s (lt_s (kfl_130 G τ) (kf_130 G τ)) (kf_131 G τ)) (kf_132 G τ)) (kf_133 G τ)) (kf_134 G τ)) (kf_135 G τ)) (kf_136 G τ)) (kf_137 G τ)) (kf_138 G τ)) (kf_139 G τ)) (kf_140 G τ)) (kf_141 G τ)) (kf_142 G τ)
theorem kfl_156 (G : mm_G) (τ : Nat → va_E) : ∀ k, k < 156 → kE G τ k := lt_s (lt_s (lt_s (lt_s (lt_s (lt_s (lt_s (lt_s (lt_s (lt_s (lt_s (lt_s (lt_s (kfl_143 G τ) (kf_143 G τ)) (kf_144 G τ)) (kf_145 G τ)) (kf_146 G τ)) (kf_147 G τ)) (kf_148 G τ)) (kf_149 G τ)) (kf_150 G τ)) (kf_151 G τ)) (kf_152 G τ)) (kf_153 G τ)) (kf_154 G τ)) (kf_155 G τ)
theorem kfl_169 (G : mm_G) (τ : Nat → va_E) : ∀ k, k < 169 → kE G τ k := lt_s (lt_s (lt_s (lt_s (lt_s (lt_s (lt_s (lt_s (lt_s (lt_s (lt_s (lt_s (lt_s (kfl_156 G τ) (kf_156 G τ)) (kf_157 G τ)) (kf_158 G τ)) (kf_159 G τ)) (kf_160 G τ)) (kf_161 G τ)) (kf_162 G τ)) (kf_163 G τ)) (kf_164 G τ)) (kf_165 G τ)) (kf_166 G τ)) (kf_167 G τ)) (kf_168 G τ)
theorem kfl_182 (G : mm_G) (τ : Nat → va_E) : ∀ k, k < 182 → kE G τ k := lt_s (lt_s (lt_s (lt_s (lt_s (lt_s (lt_s (lt_s (lt_s (lt_s (lt_s (lt_s (lt_s (kfl_169 G τ) (kf_169 G τ)) (kf_170 G τ)) (kf_171 G τ)) (kf_172 G τ)) (kf_173 G τ)) (kf_174 G τ)) (kf_175 G τ)) (kf_176 G τ)) (kf_177 G τ)) (kf_178 G τ)) (kf_179 G τ)) (kf_180 G τ)) (kf_181 G τ)
theorem kfl_195 (G : mm_G) (τ : Nat → va_E) : ∀ k, k < 195 → kE G τ k := lt_s (lt_s (lt_s (lt_s (lt_s (lt_s (lt_s (lt_s (lt_s (lt_s (lt_s (lt_s (lt_s (kfl_182 G τ) (kf_182 G τ)) (kf_183 G τ)) (kf_184 G τ)) (kf_185 G τ)) (kf_186 G τ)) (kf_187 G τ)) (kf_188 G τ)) (kf_189 G τ)) (kf_190 G τ)) (kf_191 G τ)) (kf_192 G τ)) (kf_193 G τ)) (kf_194 G τ)
theorem kfl_208 (G : mm_G) (τ : Nat → va_E) : ∀ k, k < 208 → kE G τ k := lt_s (lt_s (lt_s (lt_s (lt_s (lt_s (lt_s (lt_s (lt_s (lt_s (lt_s (lt_s (lt_s (kfl_195 G τ) (kf_195 G τ)) (kf_196 G τ)) (kf_197 G τ)) (kf_198 G τ)) (kf_199 G τ)) (kf_200 G τ)) (kf_201 G τ)) (kf_202 G τ)) (kf_203 G τ)) (kf_204 G τ)) (kf_205 G τ)) (kf_206 G τ)) (kf_207 G τ)
theorem kfl_221 (G : mm_G) (τ : Nat → va_E) : ∀ k, k < 221 → kE G τ k := lt_s (lt_s (lt_s (lt_s (lt_s (lt_s (lt_s (lt_s (lt_s (lt_s (lt_s (lt_s (lt_s (kfl_208 G τ) (kf_208 G τ)) (kf_209 G τ)) (kf_210 G τ)) (kf_211 G τ)) (kf_212 G τ)) (kf_213 G τ)) (kf_214 G τ)) (kf_215 G τ)) (kf_216 G τ)) (kf_217 G τ)) (kf_218 G τ)) (kf_219 G τ)) (kf_220 G τ)
theorem kfl_234 (G : mm_G) (τ : Nat → va_E) : ∀ k, k < 234 → kE G τ k := lt_s (lt_s (lt_s (lt_s (lt_s (lt_s (lt_s (lt_s (lt_s (lt_s (lt_s (lt_s (lt_s (kfl_221 G τ) (kf_221 G τ)) (kf_222 G τ)) (kf_223 G τ)) (kf_224 G τ)) (kf_225 G τ)) (kf_226 G τ)) (kf_227 G τ)) (kf_228 G τ)) (kf_229 G τ)) (kf_230 G τ)) (kf_231 G τ)) (kf_232 G τ)) (kf_233 G τ)
theorem kfl_247 (G : mm_G) (τ : Nat → va_E) : ∀ k, k < 247 → kE G τ k := lt_s (lt_s (lt_s (lt_s (lt_s (lt_s (lt_s (lt_s (lt_s (lt_s (lt_s (lt_s (lt_s (kfl_234 G τ) (kf_234 G τ)) (kf_235 G τ)) (kf_236 G τ)) (kf_237 G τ)) (kf_238 G τ)) (kf_239 G τ)) (kf_240 G τ)) (kf_241 G τ)) (kf_242 G τ)) (kf_243 G τ)) (kf_244 G τ)) (kf_245 G τ)) (kf_246 G τ)
theorem fin_W {G : mm_G} {τ : Nat → va_E} {s : State} {H : Heap} {locs : List Loc} (k : kw G s.heap.size 247 (kF G τ) s H locs 247) : mm_Wd G (kw_A s.heap.size) mm_s0 s H locs := by
  obtain ⟨a1, a2, a3, hP, hE, hO, hS⟩ := k
  refine ⟨fun i j _ _ h => ?_, fun i _ => ?_, fun j q hq => ?_, hE, hS⟩
  · rw [a1, a1] at h
    omega
  · show s.heap.size ≤ mm_ad G i
    rw [a1]
    omega
  · obtain ⟨b1, b2⟩ := mm_W_of hq
    rw [b2]
    exact kfl_247 G τ j b1 _ _ (hP j _ (kw_at b1))
