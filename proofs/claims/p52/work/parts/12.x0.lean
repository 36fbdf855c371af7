/-! the ghost's functions see and change the ghost's cells alone; written by wip/p52/ml.py -/
/-- the ghost's cells out of u, all others out of b -/
def mx (b u : am_M) : am_M := fun a => if 207 ≤ a ∧ a ≤ 261 then u a else b a
def mxC (b : am_M) (r : Int32 × am_M) : Int32 × am_M := (r.1, mx b r.2)
theorem mxC_1 {b : am_M} {r : Int32 × am_M} : (mxC b r).1 = r.1 := rfl
theorem mxC_2 {b : am_M} {r : Int32 × am_M} : (mxC b r).2 = mx b r.2 := rfl
theorem mxC_p {b m : am_M} {x : Int32} : mxC b (x, m) = (x, mx b m) := rfl
theorem mxC_i {b : am_M} {c : Prop} [Decidable c] {x y : Int32 × am_M} : mxC b (if c then x else y) = if c then mxC b x else mxC b y := by
  by_cases h : c
  · rw [if_pos h, if_pos h]
  · rw [if_neg h, if_neg h]
theorem mx_i {b : am_M} {c : Prop} [Decidable c] {x y : am_M} : mx b (if c then x else y) = if c then mx b x else mx b y := by
  by_cases h : c
  · rw [if_pos h, if_pos h]
  · rw [if_neg h, if_neg h]
theorem mx_at {b u : am_M} {a : Nat} (h : 207 ≤ a ∧ a ≤ 261) : mx b u a = u a := if_pos h
theorem mx_a9 {b u : am_M} {a : Nat} (h1 : 207 ≤ a) (h2 : a ≤ 261) : mx b u a = u a := if_pos ⟨h1, h2⟩
theorem mx_st {b u : am_M} {i k : Nat} {v : Int32} (h : 207 ≤ i ∧ i ≤ 261) : am_set (mx b u) i k v = mx b (am_set u i k v) := by
  funext a c
  unfold am_set mx
  by_cases e : a = i
  · subst e; simp [h]
  · simp [e]
theorem mx_pt {b u : am_M} {i : Nat} {f : Nat → Int32} (h : 207 ≤ i ∧ i ≤ 261) : am_put (mx b u) i f = mx b (am_put u i f) := by
  funext a
  unfold am_put mx
  by_cases e : a = i
  · subst e; simp [h]
  · simp [e]
theorem mr_207 {b u : am_M} : mx b u 207 = u 207 := mx_at (by decide)
theorem ms_207 {b u : am_M} {k : Nat} {v : Int32} : am_set (mx b u) 207 k v = mx b (am_set u 207 k v) := mx_st (by decide)
theorem mr_208 {b u : am_M} : mx b u 208 = u 208 := mx_at (by decide)
theorem ms_208 {b u : am_M} {k : Nat} {v : Int32} : am_set (mx b u) 208 k v = mx b (am_set u 208 k v) := mx_st (by decide)
theorem mr_209 {b u : am_M} : mx b u 209 = u 209 := mx_at (by decide)
theorem ms_209 {b u : am_M} {k : Nat} {v : Int32} : am_set (mx b u) 209 k v = mx b (am_set u 209 k v) := mx_st (by decide)
theorem mr_210 {b u : am_M} : mx b u 210 = u 210 := mx_at (by decide)
theorem ms_210 {b u : am_M} {k : Nat} {v : Int32} : am_set (mx b u) 210 k v = mx b (am_set u 210 k v) := mx_st (by decide)
theorem mr_211 {b u : am_M} : mx b u 211 = u 211 := mx_at (by decide)
theorem ms_211 {b u : am_M} {k : Nat} {v : Int32} : am_set (mx b u) 211 k v = mx b (am_set u 211 k v) := mx_st (by decide)
theorem mr_212 {b u : am_M} : mx b u 212 = u 212 := mx_at (by decide)
theorem ms_212 {b u : am_M} {k : Nat} {v : Int32} : am_set (mx b u) 212 k v = mx b (am_set u 212 k v) := mx_st (by decide)
theorem mr_213 {b u : am_M} : mx b u 213 = u 213 := mx_at (by decide)
theorem ms_213 {b u : am_M} {k : Nat} {v : Int32} : am_set (mx b u) 213 k v = mx b (am_set u 213 k v) := mx_st (by decide)
theorem mr_214 {b u : am_M} : mx b u 214 = u 214 := mx_at (by decide)
theorem ms_214 {b u : am_M} {k : Nat} {v : Int32} : am_set (mx b u) 214 k v = mx b (am_set u 214 k v) := mx_st (by decide)
theorem mr_215 {b u : am_M} : mx b u 215 = u 215 := mx_at (by decide)
theorem ms_215 {b u : am_M} {k : Nat} {v : Int32} : am_set (mx b u) 215 k v = mx b (am_set u 215 k v) := mx_st (by decide)
theorem mr_216 {b u : am_M} : mx b u 216 = u 216 := mx_at (by decide)
theorem ms_216 {b u : am_M} {k : Nat} {v : Int32} : am_set (mx b u) 216 k v = mx b (am_set u 216 k v) := mx_st (by decide)
theorem mr_217 {b u : am_M} : mx b u 217 = u 217 := mx_at (by decide)
theorem ms_217 {b u : am_M} {k : Nat} {v : Int32} : am_set (mx b u) 217 k v = mx b (am_set u 217 k v) := mx_st (by decide)
theorem mr_218 {b u : am_M} : mx b u 218 = u 218 := mx_at (by decide)
theorem ms_218 {b u : am_M} {k : Nat} {v : Int32} : am_set (mx b u) 218 k v = mx b (am_set u 218 k v) := mx_st (by decide)
theorem mr_219 {b u : am_M} : mx b u 219 = u 219 := mx_at (by decide)
theorem ms_219 {b u : am_M} {k : Nat} {v : Int32} : am_set (mx b u) 219 k v = mx b (am_set u 219 k v) := mx_st (by decide)
theorem mr_220 {b u : am_M} : mx b u 220 = u 220 := mx_at (by decide)
theorem ms_220 {b u : am_M} {k : Nat} {v : Int32} : am_set (mx b u) 220 k v = mx b (am_set u 220 k v) := mx_st (by decide)
theorem mr_221 {b u : am_M} : mx b u 221 = u 221 := mx_at (by decide)
theorem ms_221 {b u : am_M} {k : Nat} {v : Int32} : am_set (mx b u) 221 k v = mx b (am_set u 221 k v) := mx_st (by decide)
theorem mr_222 {b u : am_M} : mx b u 222 = u 222 := mx_at (by decide)
theorem ms_222 {b u : am_M} {k : Nat} {v : Int32} : am_set (mx b u) 222 k v = mx b (am_set u 222 k v) := mx_st (by decide)
theorem mr_223 {b u : am_M} : mx b u 223 = u 223 := mx_at (by decide)
theorem ms_223 {b u : am_M} {k : Nat} {v : Int32} : am_set (mx b u) 223 k v = mx b (am_set u 223 k v) := mx_st (by decide)
theorem mr_224 {b u : am_M} : mx b u 224 = u 224 := mx_at (by decide)
theorem ms_224 {b u : am_M} {k : Nat} {v : Int32} : am_set (mx b u) 224 k v = mx b (am_set u 224 k v) := mx_st (by decide)
theorem mr_225 {b u : am_M} : mx b u 225 = u 225 := mx_at (by decide)
theorem ms_225 {b u : am_M} {k : Nat} {v : Int32} : am_set (mx b u) 225 k v = mx b (am_set u 225 k v) := mx_st (by decide)
theorem mr_226 {b u : am_M} : mx b u 226 = u 226 := mx_at (by decide)
theorem ms_226 {b u : am_M} {k : Nat} {v : Int32} : am_set (mx b u) 226 k v = mx b (am_set u 226 k v) := mx_st (by decide)
theorem mr_227 {b u : am_M} : mx b u 227 = u 227 := mx_at (by decide)
theorem ms_227 {b u : am_M} {k : Nat} {v : Int32} : am_set (mx b u) 227 k v = mx b (am_set u 227 k v) := mx_st (by decide)
theorem mr_228 {b u : am_M} : mx b u 228 = u 228 := mx_at (by decide)
theorem ms_228 {b u : am_M} {k : Nat} {v : Int32} : am_set (mx b u) 228 k v = mx b (am_set u 228 k v) := mx_st (by decide)
theorem mr_229 {b u : am_M} : mx b u 229 = u 229 := mx_at (by decide)
theorem ms_229 {b u : am_M} {k : Nat} {v : Int32} : am_set (mx b u) 229 k v = mx b (am_set u 229 k v) := mx_st (by decide)
theorem mr_230 {b u : am_M} : mx b u 230 = u 230 := mx_at (by decide)
theorem ms_230 {b u : am_M} {k : Nat} {v : Int32} : am_set (mx b u) 230 k v = mx b (am_set u 230 k v) := mx_st (by decide)
theorem mr_231 {b u : am_M} : mx b u 231 = u 231 := mx_at (by decide)
theorem ms_231 {b u : am_M} {k : Nat} {v : Int32} : am_set (mx b u) 231 k v = mx b (am_set u 231 k v) := mx_st (by decide)
theorem mr_232 {b u : am_M} : mx b u 232 = u 232 := mx_at (by decide)
theorem ms_232 {b u : am_M} {k : Nat} {v : Int32} : am_set (mx b u) 232 k v = mx b (am_set u 232 k v) := mx_st (by decide)
theorem mr_233 {b u : am_M} : mx b u 233 = u 233 := mx_at (by decide)
theorem ms_233 {b u : am_M} {k : Nat} {v : Int32} : am_set (mx b u) 233 k v = mx b (am_set u 233 k v) := mx_st (by decide)
theorem mr_234 {b u : am_M} : mx b u 234 = u 234 := mx_at (by decide)
theorem ms_234 {b u : am_M} {k : Nat} {v : Int32} : am_set (mx b u) 234 k v = mx b (am_set u 234 k v) := mx_st (by decide)
theorem mr_235 {b u : am_M} : mx b u 235 = u 235 := mx_at (by decide)
theorem ms_235 {b u : am_M} {k : Nat} {v : Int32} : am_set (mx b u) 235 k v = mx b (am_set u 235 k v) := mx_st (by decide)
theorem mr_236 {b u : am_M} : mx b u 236 = u 236 := mx_at (by decide)
theorem ms_236 {b u : am_M} {k : Nat} {v : Int32} : am_set (mx b u) 236 k v = mx b (am_set u 236 k v) := mx_st (by decide)
theorem mr_237 {b u : am_M} : mx b u 237 = u 237 := mx_at (by decide)
theorem ms_237 {b u : am_M} {k : Nat} {v : Int32} : am_set (mx b u) 237 k v = mx b (am_set u 237 k v) := mx_st (by decide)
theorem mr_238 {b u : am_M} : mx b u 238 = u 238 := mx_at (by decide)
theorem ms_238 {b u : am_M} {k : Nat} {v : Int32} : am_set (mx b u) 238 k v = mx b (am_set u 238 k v) := mx_st (by decide)
theorem mr_239 {b u : am_M} : mx b u 239 = u 239 := mx_at (by decide)
theorem ms_239 {b u : am_M} {k : Nat} {v : Int32} : am_set (mx b u) 239 k v = mx b (am_set u 239 k v) := mx_st (by decide)
theorem mr_240 {b u : am_M} : mx b u 240 = u 240 := mx_at (by decide)
theorem ms_240 {b u : am_M} {k : Nat} {v : Int32} : am_set (mx b u) 240 k v = mx b (am_set u 240 k v) := mx_st (by decide)
theorem mr_241 {b u : am_M} : mx b u 241 = u 241 := mx_at (by decide)
theorem ms_241 {b u : am_M} {k : Nat} {v : Int32} : am_set (mx b u) 241 k v = mx b (am_set u 241 k v) := mx_st (by decide)
theorem mr_242 {b u : am_M} : mx b u 242 = u 242 := mx_at (by decide)
theorem ms_242 {b u : am_M} {k : Nat} {v : Int32} : am_set (mx b u) 242 k v = mx b (am_set u 242 k v) := mx_st (by decide)
theorem mr_243 {b u : am_M} : mx b u 243 = u 243 := mx_at (by decide)
theorem ms_243 {b u : am_M} {k : Nat} {v : Int32} : am_set (mx b u) 243 k v = mx b (am_set u 243 k v) := mx_st (by decide)
theorem mr_244 {b u : am_M} : mx b u 244 = u 244 := mx_at (by decide)
theorem ms_244 {b u : am_M} {k : Nat} {v : Int32} : am_set (mx b u) 244 k v = mx b (am_set u 244 k v) := mx_st (by decide)
theorem mr_245 {b u : am_M} : mx b u 245 = u 245 := mx_at (by decide)
theorem ms_245 {b u : am_M} {k : Nat} {v : Int32} : am_set (mx b u) 245 k v = mx b (am_set u 245 k v) := mx_st (by decide)
theorem mr_246 {b u : am_M} : mx b u 246 = u 246 := mx_at (by decide)
theorem ms_246 {b u : am_M} {k : Nat} {v : Int32} : am_set (mx b u) 246 k v = mx b (am_set u 246 k v) := mx_st (by decide)
theorem mr_247 {b u : am_M} : mx b u 247 = u 247 := mx_at (by decide)
theorem ms_247 {b u : am_M} {k : Nat} {v : Int32} : am_set (mx b u) 247 k v = mx b (am_set u 247 k v) := mx_st (by decide)
theorem mr_248 {b u : am_M} : mx b u 248 = u 248 := mx_at (by decide)
theorem ms_248 {b u : am_M} {k : Nat} {v : Int32} : am_set (mx b u) 248 k v = mx b (am_set u 248 k v) := mx_st (by decide)
theorem mr_249 {b u : am_M} : mx b u 249 = u 249 := mx_at (by decide)
theorem ms_249 {b u : am_M} {k : Nat} {v : Int32} : am_set (mx b u) 249 k v = mx b (am_set u 249 k v) := mx_st (by decide)
theorem mr_250 {b u : am_M} : mx b u 250 = u 250 := mx_at (by decide)
theorem ms_250 {b u : am_M} {k : Nat} {v : Int32} : am_set (mx b u) 250 k v = mx b (am_set u 250 k v) := mx_st (by decide)
theorem mr_251 {b u : am_M} : mx b u 251 = u 251 := mx_at (by decide)
theorem ms_251 {b u : am_M} {k : Nat} {v : Int32} : am_set (mx b u) 251 k v = mx b (am_set u 251 k v) := mx_st (by decide)
theorem mr_252 {b u : am_M} : mx b u 252 = u 252 := mx_at (by decide)
theorem ms_252 {b u : am_M} {k : Nat} {v : Int32} : am_set (mx b u) 252 k v = mx b (am_set u 252 k v) := mx_st (by decide)
theorem mr_253 {b u : am_M} : mx b u 253 = u 253 := mx_at (by decide)
theorem ms_253 {b u : am_M} {k : Nat} {v : Int32} : am_set (mx b u) 253 k v = mx b (am_set u 253 k v) := mx_st (by decide)
theorem mr_254 {b u : am_M} : mx b u 254 = u 254 := mx_at (by decide)
theorem ms_254 {b u : am_M} {k : Nat} {v : Int32} : am_set (mx b u) 254 k v = mx b (am_set u 254 k v) := mx_st (by decide)
theorem mr_255 {b u : am_M} : mx b u 255 = u 255 := mx_at (by decide)
theorem ms_255 {b u : am_M} {k : Nat} {v : Int32} : am_set (mx b u) 255 k v = mx b (am_set u 255 k v) := mx_st (by decide)
theorem mr_256 {b u : am_M} : mx b u 256 = u 256 := mx_at (by decide)
theorem ms_256 {b u : am_M} {k : Nat} {v : Int32} : am_set (mx b u) 256 k v = mx b (am_set u 256 k v) := mx_st (by decide)
theorem mr_257 {b u : am_M} : mx b u 257 = u 257 := mx_at (by decide)
theorem ms_257 {b u : am_M} {k : Nat} {v : Int32} : am_set (mx b u) 257 k v = mx b (am_set u 257 k v) := mx_st (by decide)
theorem mr_258 {b u : am_M} : mx b u 258 = u 258 := mx_at (by decide)
theorem ms_258 {b u : am_M} {k : Nat} {v : Int32} : am_set (mx b u) 258 k v = mx b (am_set u 258 k v) := mx_st (by decide)
theorem mr_259 {b u : am_M} : mx b u 259 = u 259 := mx_at (by decide)
theorem ms_259 {b u : am_M} {k : Nat} {v : Int32} : am_set (mx b u) 259 k v = mx b (am_set u 259 k v) := mx_st (by decide)
theorem mr_260 {b u : am_M} : mx b u 260 = u 260 := mx_at (by decide)
theorem ms_260 {b u : am_M} {k : Nat} {v : Int32} : am_set (mx b u) 260 k v = mx b (am_set u 260 k v) := mx_st (by decide)
theorem mr_261 {b u : am_M} : mx b u 261 = u 261 := mx_at (by decide)
theorem ms_261 {b u : am_M} {k : Nat} {v : Int32} : am_set (mx b u) 261 k v = mx b (am_set u 261 k v) := mx_st (by decide)
