import java.io.IOException;
import java.nio.file.Files;
import java.nio.file.Path;
import java.util.ArrayList;
import java.util.List;
import java.util.Set;
import java.util.TreeSet;
import java.util.regex.Matcher;
import java.util.regex.Pattern;

/** Compares answers with what is due, and ends the program with 1 if one was wrong. */
final class Check {
    static final long LEAST_LONG_BAD = Long.MIN_VALUE + 2;
    static final int LEAST = Integer.MIN_VALUE, MOST = Integer.MAX_VALUE;
    static final int NULL = -11, INDEX = -12, CAST = -13, STORE = -14, SIZE = -15;

    private final String name;
    private final List<String> quotes = new ArrayList<>();
    private final Set<Integer> promises = new TreeSet<>();
    private String sentence = "";
    private int wrong = 0;
    private int asked = 0;

    Check(String name) {
        this.name = name;
    }

    /** What follows tests these words of the document; 'where' is "Promise n", "Terms" or a part. */
    void sentence(String where, String words) {
        sentence = where + ", '" + words + "': ";
        quotes.add(words);
        Matcher number = Pattern.compile("Promise (\\d+)").matcher(where);
        if (number.matches()) {
            promises.add(Integer.parseInt(number.group(1)));
        }
    }

    void due(String call, long got, long want) {
        asked++;
        if (got != want) {
            wrong++;
            System.out.println(name + ": " + sentence + call + " answered " + got + ", due is " + want);
        }
    }

    void holds(String what, boolean is) {
        asked++;
        if (!is) {
            wrong++;
            System.out.println(name + ": " + sentence + "not so: " + what);
        }
    }

    /** Each promise of these must have had a sentence of its own. */
    void everyPromise(int from, int to) {
        sentence = "";
        for (int n = from; n <= to; n++) {
            holds("promise " + n + " has a sentence of its own", promises.contains(n));
        }
    }

    void end() {
        quotesAreInTheDocument();
        if (asked == 0) {
            System.out.println(name + ": nothing was asked");
        } else {
            System.out.println(name + ": " + asked + " answers, " + wrong + " wrong");
        }
        if (wrong != 0 || asked == 0) {
            System.exit(1);
        }
    }

    private void quotesAreInTheDocument() {
        Path document = Path.of(System.getProperty("doc", "../shared/DOC.md"));
        if (quotes.isEmpty() || !Files.isReadable(document)) {
            return;
        }
        sentence = "";
        try {
            String words = Files.readString(document).replaceAll("\\s+", " ");
            for (String quote : quotes) {
                holds("the document says '" + quote + "'", words.contains(quote));
            }
        } catch (IOException e) {
            holds("the document can be read", false);
        }
    }

    static SmallFirst house(String laws, String dust) {
        SmallFirst x = new SmallFirst();
        type(x, 0, laws);
        type(x, 1, dust);
        return x;
    }

    static SmallFirst house(String laws, String dust, String first) {
        SmallFirst x = house(laws, dust);
        x.first(bits(first));
        return x;
    }

    static void type(SmallFirst x, int text, String bytes) {
        for (int i = 0; i < bytes.length(); i++) {
            x.type(text, bytes.charAt(i));
        }
    }

    /** Bits of letters, of either kind. */
    static int bits(String letters) {
        int bits = 0;
        for (char c : letters.toLowerCase().toCharArray()) {
            bits |= 1 << (c - 'a');
        }
        return bits;
    }
}
