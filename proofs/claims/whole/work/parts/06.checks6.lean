/-! The tables' checks, methods 225 .. 263. -/
theorem ajAll_of {mi : Nat} (t : List (List (Nat × ajE))) (h : ∀ i, i < t.length → ((t.getD i []).all (fun q => ajChk mi q.1 q.2)) = true) : ajAll mi t = true := by
  refine List.all_eq_true.mpr fun r hr => ?_
  obtain ⟨i, hi⟩ := List.getElem?_of_mem hr
  have h1 := h i (List.getElem?_eq_some_iff.mp hi).1
  rw [List.getD_eq_getElem?_getD, hi] at h1
  exact h1
theorem ajKc_263_0 : ((ajT_263.getD 0 []).all (fun q => ajChk 263 q.1 q.2)) = true := by decide +kernel
theorem ajKc_263_1 : ((ajT_263.getD 1 []).all (fun q => ajChk 263 q.1 q.2)) = true := by decide +kernel
theorem ajKc_263_2 : ((ajT_263.getD 2 []).all (fun q => ajChk 263 q.1 q.2)) = true := by decide +kernel
theorem ajKc_263_3 : ((ajT_263.getD 3 []).all (fun q => ajChk 263 q.1 q.2)) = true := by decide +kernel
theorem ajKc_263_4 : ((ajT_263.getD 4 []).all (fun q => ajChk 263 q.1 q.2)) = true := by decide +kernel
theorem ajKc_263_5 : ((ajT_263.getD 5 []).all (fun q => ajChk 263 q.1 q.2)) = true := by decide +kernel
theorem ajKc_263_6 : ((ajT_263.getD 6 []).all (fun q => ajChk 263 q.1 q.2)) = true := by decide +kernel
theorem ajKc_263_7 : ((ajT_263.getD 7 []).all (fun q => ajChk 263 q.1 q.2)) = true := by decide +kernel
theorem ajKc_263_8 : ((ajT_263.getD 8 []).all (fun q => ajChk 263 q.1 q.2)) = true := by decide +kernel
theorem ajKc_263_9 : ((ajT_263.getD 9 []).all (fun q => ajChk 263 q.1 q.2)) = true := by decide +kernel
theorem ajKc_263_10 : ((ajT_263.getD 10 []).all (fun q => ajChk 263 q.1 q.2)) = true := by decide +kernel
theorem ajKc_263_11 : ((ajT_263.getD 11 []).all (fun q => ajChk 263 q.1 q.2)) = true := by decide +kernel
theorem ajKc_263_12 : ((ajT_263.getD 12 []).all (fun q => ajChk 263 q.1 q.2)) = true := by decide +kernel
theorem ajKc_263_13 : ((ajT_263.getD 13 []).all (fun q => ajChk 263 q.1 q.2)) = true := by decide +kernel
theorem ajKc_263_14 : ((ajT_263.getD 14 []).all (fun q => ajChk 263 q.1 q.2)) = true := by decide +kernel
theorem ajKc_263_15 : ((ajT_263.getD 15 []).all (fun q => ajChk 263 q.1 q.2)) = true := by decide +kernel
theorem ajKc_263_16 : ((ajT_263.getD 16 []).all (fun q => ajChk 263 q.1 q.2)) = true := by decide +kernel
theorem ajKc_263_17 : ((ajT_263.getD 17 []).all (fun q => ajChk 263 q.1 q.2)) = true := by decide +kernel
theorem ajKc_263_18 : ((ajT_263.getD 18 []).all (fun q => ajChk 263 q.1 q.2)) = true := by decide +kernel
theorem ajKc_263_19 : ((ajT_263.getD 19 []).all (fun q => ajChk 263 q.1 q.2)) = true := by decide +kernel
theorem ajKc_263_20 : ((ajT_263.getD 20 []).all (fun q => ajChk 263 q.1 q.2)) = true := by decide +kernel
theorem ajKc_263_21 : ((ajT_263.getD 21 []).all (fun q => ajChk 263 q.1 q.2)) = true := by decide +kernel
theorem ajKc_263_22 : ((ajT_263.getD 22 []).all (fun q => ajChk 263 q.1 q.2)) = true := by decide +kernel
theorem ajKc_263_23 : ((ajT_263.getD 23 []).all (fun q => ajChk 263 q.1 q.2)) = true := by decide +kernel
theorem ajK_263 : ajAll 263 ajT_263 = true := ajAll_of _ (fun i hi => by
  match i, hi with
  | 0, _ => exact ajKc_263_0
  | 1, _ => exact ajKc_263_1
  | 2, _ => exact ajKc_263_2
  | 3, _ => exact ajKc_263_3
  | 4, _ => exact ajKc_263_4
  | 5, _ => exact ajKc_263_5
  | 6, _ => exact ajKc_263_6
  | 7, _ => exact ajKc_263_7
  | 8, _ => exact ajKc_263_8
  | 9, _ => exact ajKc_263_9
  | 10, _ => exact ajKc_263_10
  | 11, _ => exact ajKc_263_11
  | 12, _ => exact ajKc_263_12
  | 13, _ => exact ajKc_263_13
  | 14, _ => exact ajKc_263_14
  | 15, _ => exact ajKc_263_15
  | 16, _ => exact ajKc_263_16
  | 17, _ => exact ajKc_263_17
  | 18, _ => exact ajKc_263_18
  | 19, _ => exact ajKc_263_19
  | 20, _ => exact ajKc_263_20
  | 21, _ => exact ajKc_263_21
  | 22, _ => exact ajKc_263_22
  | 23, _ => exact ajKc_263_23
  | k + 24, hk => exact absurd hk (by show ¬ k + 24 < 24; omega))
theorem ajK_225 : ajAll 225 ajT_225 = true := by decide +kernel
theorem ajK_226 : ajAll 226 ajT_226 = true := by decide +kernel
theorem ajK_227 : ajAll 227 ajT_227 = true := by decide +kernel
theorem ajK_228 : ajAll 228 ajT_228 = true := by decide +kernel
theorem ajK_229 : ajAll 229 ajT_229 = true := by decide +kernel
theorem ajK_230 : ajAll 230 ajT_230 = true := by decide +kernel
theorem ajK_231 : ajAll 231 ajT_231 = true := by decide +kernel
theorem ajK_232 : ajAll 232 ajT_232 = true := by decide +kernel
theorem ajK_233 : ajAll 233 ajT_233 = true := by decide +kernel
theorem ajK_234 : ajAll 234 ajT_234 = true := by decide +kernel
theorem ajK_235 : ajAll 235 ajT_235 = true := by decide +kernel
theorem ajK_236 : ajAll 236 ajT_236 = true := by decide +kernel
theorem ajK_237 : ajAll 237 ajT_237 = true := by decide +kernel
theorem ajK_238 : ajAll 238 ajT_238 = true := by decide +kernel
theorem ajK_239 : ajAll 239 ajT_239 = true := by decide +kernel
theorem ajK_240 : ajAll 240 ajT_240 = true := by decide +kernel
theorem ajK_241 : ajAll 241 ajT_241 = true := by decide +kernel
theorem ajK_242 : ajAll 242 ajT_242 = true := by decide +kernel
theorem ajK_243 : ajAll 243 ajT_243 = true := by decide +kernel
theorem ajK_244 : ajAll 244 ajT_244 = true := by decide +kernel
theorem ajK_245 : ajAll 245 ajT_245 = true := by decide +kernel
theorem ajK_246 : ajAll 246 ajT_246 = true := by decide +kernel
theorem ajK_247 : ajAll 247 ajT_247 = true := by decide +kernel
theorem ajK_248 : ajAll 248 ajT_248 = true := by decide +kernel
theorem ajK_249 : ajAll 249 ajT_249 = true := by decide +kernel
theorem ajK_250 : ajAll 250 ajT_250 = true := by decide +kernel
theorem ajK_251 : ajAll 251 ajT_251 = true := by decide +kernel
theorem ajK_252 : ajAll 252 ajT_252 = true := by decide +kernel
theorem ajK_253 : ajAll 253 ajT_253 = true := by decide +kernel
theorem ajK_254 : ajAll 254 ajT_254 = true := by decide +kernel
theorem ajK_255 : ajAll 255 ajT_255 = true := by decide +kernel
theorem ajK_256 : ajAll 256 ajT_256 = true := by decide +kernel
theorem ajK_257 : ajAll 257 ajT_257 = true := by decide +kernel
theorem ajK_258 : ajAll 258 ajT_258 = true := by decide +kernel
theorem ajK_259 : ajAll 259 ajT_259 = true := by decide +kernel
theorem ajK_260 : ajAll 260 ajT_260 = true := by decide +kernel
theorem ajK_261 : ajAll 261 ajT_261 = true := by decide +kernel
theorem ajK_262 : ajAll 262 ajT_262 = true := by decide +kernel
