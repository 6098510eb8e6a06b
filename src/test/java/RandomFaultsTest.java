import java.util.Random;

/** Texts with small wrongs, read by the class and by the model: the same fault, and all stays. */
public final class RandomFaultsTest {
    private static final int TEXTS = 20000;

    private RandomFaultsTest() {
    }

    public static void main(String[] args) {
        Random random = new Random(7);
        RandomTexts texts = new RandomTexts(random);
        int[] kinds = new int[16];
        for (int i = 0; i < TEXTS && Due.allRight(); i++) {
            HillClock clock = new HillClock();
            Model model = new Model();
            String first = texts.hills();
            both(clock, model, first, true, kinds);
            String text = first;
            boolean hills = random.nextInt(3) > 0;
            if (!hills) {
                text = texts.days(model.count(1), model.count(2));
            }
            int wrongs = random.nextInt(3);
            for (int k = 0; k < wrongs; k++) {
                text = texts.spoilt(text);
            }
            both(clock, model, text, hills, kinds);
            for (int what = 0; what < 14; what++) {
                Due.is("count " + what + " behind " + text, clock.count(what), model.count(what));
            }
        }
        for (int kind = 0; kind <= 5; kind++) {
            Due.is("texts with fault " + kind, kinds[kind] > 50, true);
        }
        Due.end();
    }

    private static void both(HillClock clock, Model model, String text, boolean hills, int[] kinds) {
        Due.feed(clock, text);
        for (int i = 0; i < text.length(); i += 24) {
            model.feed(Due.pack(text, i), Due.pack(text, i + 8), Due.pack(text, i + 16));
        }
        int got = hills ? clock.hills() : clock.days();
        int want = hills ? model.hills() : model.days();
        Due.is("reading " + text, got, want);
        kinds[want & 15]++;
    }
}
