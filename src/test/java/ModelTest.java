/** All promises: the class answers every call of many made runs as a plain model of the document does. */
public final class ModelTest {
    private static final int STATUSES = 8;
    private static final int[] seen = new int[STATUSES];

    public static void main(String[] args) {
        Check.sentence("Promises 1 to 16, as the model has them");
        for (int seed = 0; seed < 20000; seed++) {
            compare("programs", seed, new Calls(seed).programs(3));
        }
        for (int seed = 0; seed < 5000; seed++) {
            compare("anyhow", seed, new Calls(-1 - seed).anyhow(150));
        }
        for (int status = 0; status < STATUSES; status++) {
            Check.holds("the runs made too few ends with status " + (status - 1), seen[status] >= 500);
        }
        Check.end();
    }

    private static void compare(String form, int seed, Calls calls) {
        int fuel = calls.below(120) - 5;
        int live = calls.below(3) == 0 ? calls.below(40) - 2 : calls.below(7);
        int depth = calls.below(3) == 0 ? calls.below(40) - 2 : 4 + calls.below(6);
        SafeClosures x = new SafeClosures(fuel, live, depth);
        Model model = new Model(fuel, live, depth);
        for (int[] call : calls.made) {
            int due = model.answer(call);
            Check.same(form + ", seed " + seed + ": " + Calls.name(call), Calls.give(x, call), due);
            if (call[0] == Calls.RUN || call[0] == Calls.CALL_RESULT) {
                seen[due + 1]++;
            }
        }
    }
}
