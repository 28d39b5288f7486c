import java.util.ArrayList;
import java.util.HashMap;
import java.util.List;
import java.util.Map;

/** Long runs of calls, each answer held against a plain model whose words are strings. */
public final class ModelTest {
    private static final int CALLS = 512;
    private static final int RUNS = 40;
    private static final int KINDS = 15;
    private static final List<List<String>> ALL_WORDS = allWords();

    private static int wrong = 0;
    private static long seed = 20261115L;

    // The list of forbidden pieces, and the allowed words of each length 0 .. 9 in order.
    private final List<String> list = new ArrayList<>();
    private final List<List<String>> words = new ArrayList<>();

    private ModelTest() {
        refresh();
    }

    private static List<List<String>> allWords() {
        List<List<String>> all = new ArrayList<>();
        all.add(List.of(""));
        for (int n = 1; n <= 9; n++) {
            List<String> longer = new ArrayList<>();
            for (String word : all.get(n - 1)) {
                longer.add(word + "0");
                longer.add(word + "1");
                longer.add(word + "2");
            }
            all.add(longer);
        }
        return all;
    }

    private void refresh() {
        words.clear();
        for (List<String> ofLength : ALL_WORDS) {
            List<String> good = new ArrayList<>();
            for (String word : ofLength) {
                if (good(word)) {
                    good.add(word);
                }
            }
            words.add(good);
        }
    }

    private boolean good(String word) {
        for (String piece : list) {
            if (word.contains(piece)) {
                return false;
            }
        }
        return true;
    }

    private static int code(String word) {
        return ALL_WORDS.get(word.length()).indexOf(word);
    }

    /** The letters of a piece, or null if this is the number of none. */
    private static String letters(int piece) {
        if (piece < 3 || piece > 161) {
            return null;
        }
        String digits = Integer.toString(piece, 3);
        return digits.charAt(0) == '1' ? digits.substring(1) : null;
    }

    private static boolean length(int n) {
        return 0 <= n && n <= 9;
    }

    private static boolean code(int n, int code) {
        return 0 <= code && code < ALL_WORDS.get(n).size();
    }

    private long forbid(int piece) {
        String letters = letters(piece);
        if (letters == null) {
            return -1;
        }
        if (list.contains(letters)) {
            return -2;
        }
        if (list.size() == 6) {
            return -3;
        }
        list.add(letters);
        refresh();
        return list.size();
    }

    private long permit(int piece) {
        String letters = letters(piece);
        if (letters == null || !list.remove(letters)) {
            return -1;
        }
        refresh();
        return list.size();
    }

    private long count(int n) {
        if (n < 0 || n > 30) {
            return -1;
        }
        if (n <= 9) {
            return words.get(n).size();
        }
        Map<String, Long> byEnd = new HashMap<>();
        for (String word : words.get(9)) {
            byEnd.merge(word.substring(5), 1L, Long::sum);
        }
        for (int length = 9; length < n; length++) {
            Map<String, Long> longer = new HashMap<>();
            byEnd.forEach((end, many) -> {
                for (int letter = 0; letter < 3; letter++) {
                    if (good(end + letter)) {
                        longer.merge(end.substring(1) + letter, many, Long::sum);
                    }
                }
            });
            byEnd = longer;
        }
        return byEnd.values().stream().mapToLong(Long::longValue).sum();
    }

    private long countWith(int n, int k) {
        if (!length(n)) {
            return -1;
        }
        if (k < 0 || k > 9) {
            return -2;
        }
        return words.get(n).stream().filter(word -> word.chars().filter(c -> c == '0').count() == k).count();
    }

    private long ofWord(int kind, int n, int code) {
        if (!length(n)) {
            return -1;
        }
        if (!code(n, code)) {
            return -2;
        }
        String word = ALL_WORDS.get(n).get(code);
        if (kind == 3) {
            return good(word) ? 1 : 0;
        }
        if (kind == 6) {
            return words.get(n).stream().filter(other -> other.compareTo(word) < 0).count();
        }
        long found = 0;
        for (int letter = 0; letter < 3; letter++) {
            found += good(word + letter) ? 1 : 0;
        }
        return found;
    }

    private long word(int n, int i) {
        if (!length(n)) {
            return -1;
        }
        return i < 0 || i >= words.get(n).size() ? -2 : code(words.get(n).get(i));
    }

    private long next(int n, int after) {
        if (!length(n)) {
            return -1;
        }
        if (after >= 0 && !code(n, after)) {
            return -2;
        }
        String bound = after < 0 ? null : ALL_WORDS.get(n).get(after);
        for (String word : words.get(n)) {
            if (bound == null || word.compareTo(bound) > 0) {
                return code(word);
            }
        }
        return -2;
    }

    private long ofPiece(int kind, int n, int piece) {
        if (!length(n)) {
            return -1;
        }
        String letters = letters(piece);
        if (letters == null) {
            return -2;
        }
        if (kind == 9) {
            return words.get(n).stream().filter(word -> word.startsWith(letters)).count();
        }
        if (kind == 10) {
            return words.get(n).stream().filter(word -> word.endsWith(letters)).count();
        }
        long places = 0;
        for (String word : words.get(n)) {
            for (int place = 0; place < n; place++) {
                places += word.startsWith(letters, place) ? 1 : 0;
            }
        }
        return places;
    }

    private long longest() {
        int n = 9;
        while (words.get(n).isEmpty()) {
            n--;
        }
        return n;
    }

    private long mirrored(int n) {
        if (!length(n)) {
            return -1;
        }
        return words.get(n).stream()
                .filter(word -> new StringBuilder(word).reverse().toString().equals(word)).count();
    }

    private long due(int kind, int a, int b) {
        switch (kind) {
            case 0: return forbid(a);
            case 1: return permit(a);
            case 2: return list.size();
            case 4: return count(a);
            case 5: return countWith(a, b);
            case 7: return word(a, b);
            case 8: return next(a, b);
            case 9: case 10: case 11: return ofPiece(kind, a, b);
            case 12: return longest();
            case 14: return mirrored(a);
            default: return ofWord(kind, a, b);
        }
    }

    private static long got(FactorFreeWords x, int kind, int a, int b) {
        switch (kind) {
            case 0: return x.forbid(a);
            case 1: return x.permit(a);
            case 2: return x.pieces();
            case 3: return x.allowed(a, b);
            case 4: return x.count(a);
            case 5: return x.countWith(a, b);
            case 6: return x.rank(a, b);
            case 7: return x.word(a, b);
            case 8: return x.next(a, b);
            case 9: return x.beginning(a, b);
            case 10: return x.ending(a, b);
            case 11: return x.standing(a, b);
            case 12: return x.longest();
            case 13: return x.choices(a, b);
            default: return x.mirrored(a);
        }
    }

    private static void hold(FactorFreeWords x, ModelTest model, int kind, int a, int b) {
        List<String> list = new ArrayList<>(model.list);
        long want = model.due(kind, a, b);
        long got = got(x, kind, a, b);
        if (got != want) {
            wrong++;
            System.out.println("with " + list + ", call of kind " + kind + " (" + a + ", " + b + ") answered "
                    + got + ", due is " + want);
        }
    }

    /** A row of numbers that is the same in every run of the test. */
    private static int pick(int bound) {
        seed = seed * 6364136223846793005L + 1442695040888963407L;
        return (int) ((seed >>> 33) % bound);
    }

    private static int pickPiece(ModelTest model) {
        int way = pick(10);
        if (way == 0) {
            return pick(180) - 8;
        }
        if (way <= 3 && !model.list.isEmpty()) {
            return Integer.parseInt("1" + model.list.get(pick(model.list.size())), 3);
        }
        int first = new int[] {3, 9, 9, 27, 27, 81}[pick(6)];
        return first + pick(first);
    }

    private static int pickLength() {
        return pick(12) == 0 ? pick(14) - 2 : pick(10);
    }

    private static int pickCode(int n) {
        int words = length(n) ? ALL_WORDS.get(n).size() : 20;
        return pick(10) == 0 ? words - 2 + pick(4) : pick(words + 1) - 1;
    }

    private static void randomRun() {
        FactorFreeWords x = new FactorFreeWords();
        ModelTest model = new ModelTest();
        for (int call = 0; call < CALLS; call++) {
            int kind = pick(KINDS);
            if (kind <= 1) {
                // Lists that fill up quickly and then change show more than lists that stay short.
                hold(x, model, pick(5) < 3 ? 0 : 1, pickPiece(model), 0);
            } else if (kind == 4) {
                hold(x, model, kind, pick(35) - 2, 0);
            } else {
                int n = pickLength();
                int b = kind == 5 ? pick(12) - 1 : kind >= 9 && kind <= 11 ? pickPiece(model) : pickCode(n);
                hold(x, model, kind, n, b);
            }
        }
    }

    /** Every piece by itself, so that each place in the table of pieces is used. */
    private static void eachPiece() {
        for (int piece = 3; piece <= 161; piece++) {
            FactorFreeWords x = new FactorFreeWords();
            ModelTest model = new ModelTest();
            hold(x, model, 0, piece, 0);
            for (int n = 0; n <= 5; n++) {
                hold(x, model, 4, n, 0);
                hold(x, model, 14, n, 0);
                hold(x, model, 8, n, -1);
            }
            hold(x, model, 4, 30, 0);
            hold(x, model, 11, 6, piece);
            hold(x, model, 1, piece, 0);
            hold(x, model, 4, 6, 0);
        }
    }

    /** All codes of lengths 0 to 5 in the questions about one word. */
    private static void eachWord(int... pieces) {
        for (int kind : new int[] {3, 6, 7, 8, 13}) {
            FactorFreeWords x = new FactorFreeWords();
            ModelTest model = new ModelTest();
            for (int piece : pieces) {
                hold(x, model, 0, piece, 0);
            }
            for (int n = 0; n <= 5; n++) {
                for (int code = -1; code <= ALL_WORDS.get(n).size(); code++) {
                    hold(x, model, kind, n, code);
                }
            }
        }
    }

    public static void main(String[] args) {
        eachPiece();
        eachWord();
        eachWord(9, 13, 17);
        eachWord(4, 27, 90);
        eachWord(10, 12, 29, 50, 82, 140);
        for (int run = 0; run < RUNS; run++) {
            randomRun();
        }
        System.out.println(wrong == 0 ? "all answers are as due" : wrong + " answers are not as due");
        if (wrong != 0) {
            System.exit(1);
        }
    }
}
