import java.util.ArrayList;
import java.util.List;
import java.util.function.Supplier;

/**
 * All that can be seen of an object, part by part. Looking changes an object (it is undone, lost and
 * forgotten), so each part is seen of a new one that is made alike, in no more than 512 calls.
 */
final class State {
    static final int FINDING = 0, LAWS = 1, DUST = 2, FIRST = 3, LAYINGS = 4, SEEN = 5, SHEET = 6, DIGEST = 10;
    static final int PARTS = 11;

    private State() {
    }

    static List<List<Long>> of(Supplier<SmallFirst> made) {
        List<List<Long>> parts = new ArrayList<>();
        parts.add(List.of((long) made.get().count(8)));
        parts.add(text(made.get(), 0));
        parts.add(text(made.get(), 1));
        parts.add(List.of((long) made.get().count(7)));
        parts.add(layings(made));
        parts.add(seen(made.get()));
        for (int s = 0; s < 4; s++) {
            parts.add(sheet(made, s));
        }
        parts.add(List.of(made.get().digest()));
        return parts;
    }

    private static List<Long> text(SmallFirst x, int text) {
        List<Long> all = new ArrayList<>();
        int n = x.count(text);
        all.add((long) n);
        all.add((long) x.count(2 + text));
        for (int i = 0; i < n; i++) {
            for (int what = 0; what < 3 - text; what++) {
                all.add((long) (text == 0 ? x.rule(i, what) : x.dust(i, what)));
            }
        }
        int left = 0;
        while (left >= 0) {
            all.add((long) x.fault(text));
            left = x.undo(text);
            all.add((long) left);
        }
        return all;
    }

    // In a house where each thing keeps itself, what is laid is seen where nothing lay at first, and what is
    // swept where all did. As each laying is undone the weeks are seen again.
    private static List<Long> layings(Supplier<SmallFirst> made) {
        List<Long> all = new ArrayList<>();
        boolean more = true;
        for (int undone = 0; more; undone++) {
            SmallFirst x = made.get();
            x.wipe(0);
            x.wipe(1);
            Check.type(x, 0, "a+A;b+B;c+C;d+D;e+E;f+F;g+G;h+H");
            Check.type(x, 1, "Aa;Bb;Cc;Dd;Ee;Ff;Gg;Hh");
            all.add((long) x.count(4));
            for (int i = 0; i < undone && more; i++) {
                more = x.back() >= 0;
            }
            weeks(x, 0, all);
            weeks(x, 255, all);
        }
        return all;
    }

    private static void weeks(SmallFirst x, int first, List<Long> all) {
        x.first(first);
        for (int w = 0; w < 30; w++) {
            all.add((long) x.week(w, 0));
        }
    }

    private static List<Long> seen(SmallFirst x) {
        List<Long> all = new ArrayList<>();
        for (int big = 0; big < 8; big++) {
            all.add((long) x.stands(big, 0));
            all.add((long) x.stands(big, 1));
            all.add((long) x.watch(big));
        }
        all.add((long) x.forget());
        return all;
    }

    private static List<Long> sheet(Supplier<SmallFirst> made, int s) {
        List<Long> all = new ArrayList<>();
        int n = made.get().lose(s);
        all.add((long) n);
        SmallFirst x = made.get();
        for (int form = 0; form < 3; form++) {
            all.add((long) x.put(s, form, 60, 0));
            for (int i = 0; i < n; i++) {
                all.add((long) x.get(s, form, i));
            }
        }
        return all;
    }
}
