/-! the tables hold, method by method -/
set_option maxRecDepth 100000 in
theorem ai_k240 : ai_mk am_240 = true := by decide +kernel
set_option maxRecDepth 100000 in
theorem ai_k241 : ai_mk am_241 = true := by decide +kernel
set_option maxRecDepth 100000 in
theorem ai_k242 : ai_mk am_242 = true := by decide +kernel
set_option maxRecDepth 100000 in
theorem ai_k243 : ai_mk am_243 = true := by decide +kernel
set_option maxRecDepth 100000 in
theorem ai_k244 : ai_mk am_244 = true := by decide +kernel
set_option maxRecDepth 100000 in
theorem ai_k245 : ai_mk am_245 = true := by decide +kernel
set_option maxRecDepth 100000 in
theorem ai_k246 : ai_mk am_246 = true := by decide +kernel
set_option maxRecDepth 100000 in
theorem ai_k247 : ai_mk am_247 = true := by decide +kernel
set_option maxRecDepth 100000 in
theorem ai_k248 : ai_mk am_248 = true := by decide +kernel
set_option maxRecDepth 100000 in
theorem ai_k249 : ai_mk am_249 = true := by decide +kernel
set_option maxRecDepth 100000 in
theorem ai_k250 : ai_mk am_250 = true := by decide +kernel
set_option maxRecDepth 100000 in
theorem ai_k251 : ai_mk am_251 = true := by decide +kernel
set_option maxRecDepth 100000 in
theorem ai_k252 : ai_mk am_252 = true := by decide +kernel
set_option maxRecDepth 100000 in
theorem ai_k253 : ai_mk am_253 = true := by decide +kernel
set_option maxRecDepth 100000 in
theorem ai_k254 : ai_mk am_254 = true := by decide +kernel
set_option maxRecDepth 100000 in
theorem ai_k255 : ai_mk am_255 = true := by decide +kernel
set_option maxRecDepth 100000 in
theorem ai_k256 : ai_mk am_256 = true := by decide +kernel
set_option maxRecDepth 100000 in
theorem ai_k257 : ai_mk am_257 = true := by decide +kernel
set_option maxRecDepth 100000 in
theorem ai_k258 : ai_mk am_258 = true := by decide +kernel
set_option maxRecDepth 100000 in
theorem ai_k259 : ai_mk am_259 = true := by decide +kernel
set_option maxRecDepth 100000 in
theorem ai_k260 : ai_mk am_260 = true := by decide +kernel
set_option maxRecDepth 100000 in
theorem ai_k261 : ai_mk am_261 = true := by decide +kernel
set_option maxRecDepth 100000 in
theorem ai_k262 : ai_mk am_262 = true := by decide +kernel
set_option maxRecDepth 100000 in
theorem ai_k263 : ai_mk am_263 = true := by decide +kernel
set_option maxRecDepth 100000 in
theorem ai_k264 : ai_mk am_264 = true := by decide +kernel
set_option maxRecDepth 100000 in
theorem ai_k265 : ai_mk am_265 = true := by decide +kernel
set_option maxRecDepth 100000 in
theorem ai_k266 : ai_mk am_266 = true := by decide +kernel
set_option maxRecDepth 100000 in
theorem ai_k267 : ai_mk am_267 = true := by decide +kernel
set_option maxRecDepth 100000 in
theorem ai_k268 : ai_mk am_268 = true := by decide +kernel
set_option maxRecDepth 100000 in
theorem ai_k269 : ai_mk am_269 = true := by decide +kernel
set_option maxRecDepth 100000 in
theorem ai_k270 : ai_mk am_270 = true := by decide +kernel
set_option maxRecDepth 100000 in
theorem ai_k271 : ai_mk am_271 = true := by decide +kernel
set_option maxRecDepth 100000 in
theorem ai_k272 : ai_mk am_272 = true := by decide +kernel
set_option maxRecDepth 100000 in
theorem ai_k273 : ai_mk am_273 = true := by decide +kernel
set_option maxRecDepth 100000 in
theorem ai_k274 : ai_mk am_274 = true := by decide +kernel
set_option maxRecDepth 100000 in
theorem ai_k275 : ai_mk am_275 = true := by decide +kernel
set_option maxRecDepth 100000 in
theorem ai_k276 : ai_mk am_276 = true := by decide +kernel
set_option maxRecDepth 100000 in
theorem ai_k277 : ai_mk am_277 = true := by decide +kernel
set_option maxRecDepth 100000 in
theorem ai_k278 : ai_mk am_278 = true := by decide +kernel
set_option maxRecDepth 100000 in
theorem ai_k279 : ai_mk am_279 = true := by decide +kernel
set_option maxRecDepth 100000 in
theorem ai_k280 : ai_mk am_280 = true := by decide +kernel
set_option maxRecDepth 100000 in
theorem ai_k281 : ai_mk am_281 = true := by decide +kernel
set_option maxRecDepth 100000 in
theorem ai_k282 : ai_mk am_282 = true := by decide +kernel
set_option maxRecDepth 100000 in
theorem ai_k283 : ai_mk am_283 = true := by decide +kernel
set_option maxRecDepth 100000 in
theorem ai_k284 : ai_mk am_284 = true := by decide +kernel
set_option maxRecDepth 100000 in
theorem ai_k285 : ai_mk am_285 = true := by decide +kernel
set_option maxRecDepth 100000 in
theorem ai_k286 : ai_mk am_286 = true := by decide +kernel
set_option maxRecDepth 100000 in
theorem ai_k287 : ai_mk am_287 = true := by decide +kernel
set_option maxRecDepth 100000 in
theorem ai_k288 : ai_mk am_288 = true := by decide +kernel
set_option maxRecDepth 100000 in
theorem ai_k289 : ai_mk am_289 = true := by decide +kernel
set_option maxRecDepth 100000 in
theorem ai_k290 : ai_mk am_290 = true := by decide +kernel
set_option maxRecDepth 100000 in
theorem ai_k291 : ai_mk am_291 = true := by decide +kernel
set_option maxRecDepth 100000 in
theorem ai_k292 : ai_mk am_292 = true := by decide +kernel
