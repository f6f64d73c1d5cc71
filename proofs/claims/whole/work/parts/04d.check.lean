/-! the tables hold, method by method -/
set_option maxRecDepth 100000 in
theorem ai_k180 : ai_mk am_180 = true := by decide +kernel
set_option maxRecDepth 100000 in
theorem ai_k181 : ai_mk am_181 = true := by decide +kernel
set_option maxRecDepth 100000 in
theorem ai_k182 : ai_mk am_182 = true := by decide +kernel
set_option maxRecDepth 100000 in
theorem ai_k183 : ai_mk am_183 = true := by decide +kernel
set_option maxRecDepth 100000 in
theorem ai_k184 : ai_mk am_184 = true := by decide +kernel
set_option maxRecDepth 100000 in
theorem ai_k185 : ai_mk am_185 = true := by decide +kernel
set_option maxRecDepth 100000 in
theorem ai_k186 : ai_mk am_186 = true := by decide +kernel
set_option maxRecDepth 100000 in
theorem ai_k187 : ai_mk am_187 = true := by decide +kernel
set_option maxRecDepth 100000 in
theorem ai_k188 : ai_mk am_188 = true := by decide +kernel
set_option maxRecDepth 100000 in
theorem ai_k189 : ai_mk am_189 = true := by decide +kernel
set_option maxRecDepth 100000 in
theorem ai_k190 : ai_mk am_190 = true := by decide +kernel
set_option maxRecDepth 100000 in
theorem ai_k191 : ai_mk am_191 = true := by decide +kernel
set_option maxRecDepth 100000 in
theorem ai_k192 : ai_mk am_192 = true := by decide +kernel
set_option maxRecDepth 100000 in
theorem ai_k193 : ai_mk am_193 = true := by decide +kernel
set_option maxRecDepth 100000 in
theorem ai_k194 : ai_mk am_194 = true := by decide +kernel
set_option maxRecDepth 100000 in
theorem ai_k195 : ai_mk am_195 = true := by decide +kernel
set_option maxRecDepth 100000 in
theorem ai_k196 : ai_mk am_196 = true := by decide +kernel
set_option maxRecDepth 100000 in
theorem ai_k197 : ai_mk am_197 = true := by decide +kernel
set_option maxRecDepth 100000 in
theorem ai_k198 : ai_mk am_198 = true := by decide +kernel
set_option maxRecDepth 100000 in
theorem ai_k199 : ai_mk am_199 = true := by decide +kernel
set_option maxRecDepth 100000 in
theorem ai_k200 : ai_mk am_200 = true := by decide +kernel
set_option maxRecDepth 100000 in
theorem ai_k201 : ai_mk am_201 = true := by decide +kernel
set_option maxRecDepth 100000 in
theorem ai_k202 : ai_mk am_202 = true := by decide +kernel
set_option maxRecDepth 100000 in
theorem ai_k203 : ai_mk am_203 = true := by decide +kernel
set_option maxRecDepth 100000 in
theorem ai_k204 : ai_mk am_204 = true := by decide +kernel
set_option maxRecDepth 100000 in
theorem ai_k205 : ai_mk am_205 = true := by decide +kernel
set_option maxRecDepth 100000 in
theorem ai_k206 : ai_mk am_206 = true := by decide +kernel
set_option maxRecDepth 100000 in
theorem ai_k207 : ai_mk am_207 = true := by decide +kernel
set_option maxRecDepth 100000 in
theorem ai_k208 : ai_mk am_208 = true := by decide +kernel
set_option maxRecDepth 100000 in
theorem ai_k209 : ai_mk am_209 = true := by decide +kernel
set_option maxRecDepth 100000 in
theorem ai_k210 : ai_mk am_210 = true := by decide +kernel
set_option maxRecDepth 100000 in
theorem ai_k211 : ai_mk am_211 = true := by decide +kernel
set_option maxRecDepth 100000 in
theorem ai_k212 : ai_mk am_212 = true := by decide +kernel
set_option maxRecDepth 100000 in
theorem ai_k213 : ai_mk am_213 = true := by decide +kernel
set_option maxRecDepth 100000 in
theorem ai_k214 : ai_mk am_214 = true := by decide +kernel
set_option maxRecDepth 100000 in
theorem ai_k215 : ai_mk am_215 = true := by decide +kernel
set_option maxRecDepth 100000 in
theorem ai_k216 : ai_mk am_216 = true := by decide +kernel
set_option maxRecDepth 100000 in
theorem ai_k217 : ai_mk am_217 = true := by decide +kernel
set_option maxRecDepth 100000 in
theorem ai_k218 : ai_mk am_218 = true := by decide +kernel
set_option maxRecDepth 100000 in
theorem ai_k219 : ai_mk am_219 = true := by decide +kernel
set_option maxRecDepth 100000 in
theorem ai_k220 : ai_mk am_220 = true := by decide +kernel
set_option maxRecDepth 100000 in
theorem ai_k221 : ai_mk am_221 = true := by decide +kernel
set_option maxRecDepth 100000 in
theorem ai_k222 : ai_mk am_222 = true := by decide +kernel
set_option maxRecDepth 100000 in
theorem ai_k223 : ai_mk am_223 = true := by decide +kernel
set_option maxRecDepth 100000 in
theorem ai_k224 : ai_mk am_224 = true := by decide +kernel
set_option maxRecDepth 100000 in
theorem ai_k225 : ai_mk am_225 = true := by decide +kernel
set_option maxRecDepth 100000 in
theorem ai_k226 : ai_mk am_226 = true := by decide +kernel
set_option maxRecDepth 100000 in
theorem ai_k227 : ai_mk am_227 = true := by decide +kernel
set_option maxRecDepth 100000 in
theorem ai_k228 : ai_mk am_228 = true := by decide +kernel
set_option maxRecDepth 100000 in
theorem ai_k229 : ai_mk am_229 = true := by decide +kernel
set_option maxRecDepth 100000 in
theorem ai_k230 : ai_mk am_230 = true := by decide +kernel
set_option maxRecDepth 100000 in
theorem ai_k231 : ai_mk am_231 = true := by decide +kernel
set_option maxRecDepth 100000 in
theorem ai_k232 : ai_mk am_232 = true := by decide +kernel
set_option maxRecDepth 100000 in
theorem ai_k233 : ai_mk am_233 = true := by decide +kernel
set_option maxRecDepth 100000 in
theorem ai_k234 : ai_mk am_234 = true := by decide +kernel
set_option maxRecDepth 100000 in
theorem ai_k235 : ai_mk am_235 = true := by decide +kernel
set_option maxRecDepth 100000 in
theorem ai_k236 : ai_mk am_236 = true := by decide +kernel
set_option maxRecDepth 100000 in
theorem ai_k237 : ai_mk am_237 = true := by decide +kernel
set_option maxRecDepth 100000 in
theorem ai_k238 : ai_mk am_238 = true := by decide +kernel
set_option maxRecDepth 100000 in
theorem ai_k239 : ai_mk am_239 = true := by decide +kernel
