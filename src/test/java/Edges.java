import java.util.ArrayList;
import java.util.List;

/** What the tests of the document's sentences share; each test is run on an object of its own. */
abstract class Edges {
    static final int NONE = -1;
    static final int OTHERS = -2;
    static final int MIN = Integer.MIN_VALUE;
    static final int MAX = Integer.MAX_VALUE;

    /** A call with its arguments; a boolean counts 1 or 0. */
    interface Call {
        long on(int... a);
    }

    final List<String> wrong = new ArrayList<>();
    int asked;

    final void due(String call, long got, long want) {
        asked++;
        if (got != want) {
            wrong.add(call + " answered " + got + ", due is " + want);
        }
    }

    final void due(String call, boolean got, boolean want) {
        due(call, got ? 1 : 0, want ? 1 : 0);
    }

    /** With each of these arguments the call gives that answer. */
    final void each(String call, long want, Call f, int[]... arguments) {
        for (int[] a : arguments) {
            StringBuilder told = new StringBuilder(call).append('(');
            for (int i = 0; i < a.length; i++) {
                told.append(i == 0 ? "" : ", ").append(a[i]);
            }
            due(told.append(')').toString(), f.on(a), want);
        }
    }

    /** As each, and nothing that can be looked at is another one behind these calls. */
    final void refused(ClothesHorses x, String call, long want, Call f, int[]... arguments) {
        String before = all(x);
        each(call, want, f, arguments);
        same("what is behind " + call, all(x), before);
    }

    final void same(String what, String got, String want) {
        asked++;
        if (!got.equals(want)) {
            wrong.add(what + " is\n    " + got + ", due is\n    " + want);
        }
    }

    /** Arguments for calls of one number. */
    static int[][] ones(int... numbers) {
        int[][] ones = new int[numbers.length][];
        for (int i = 0; i < numbers.length; i++) {
            ones[i] = new int[] {numbers[i]};
        }
        return ones;
    }

    static int[] of(int... numbers) {
        return numbers;
    }

    static long bit(boolean answer) {
        return answer ? 1 : 0;
    }

    /** X behind so many draws. */
    static int drawn(int x, int times) {
        long now = x;
        for (int i = 0; i < times; i++) {
            now = (now * 523 + 409) % 30707;
        }
        return (int) now;
    }

    static ClothesHorses with(int... hinges) {
        ClothesHorses x = new ClothesHorses();
        for (int h : hinges) {
            x.horse(h);
        }
        return x;
    }

    /** HORSES with these HINGES, ruled by a TEXT that must be without a FAULT. */
    final ClothesHorses ruled(String text, int... hinges) {
        ClothesHorses x = with(hinges);
        rule(x, text);
        return x;
    }

    final void rule(ClothesHorses x, String text) {
        int number = x.about(2);
        due("text() of '" + text + "'", Checks.text(x, text), number);
        due("by(" + number + ")", x.by(number), true);
    }

    /** As many HOURS pass as it takes to that HOUR (8640 at least), in few calls; a TEXT is told for it. */
    static void passTo(ClothesHorses x, int hour) {
        int text = Checks.text(x, "hour 60;".repeat(24));
        for (int i = 0; i < 6; i++) {
            x.played(text);
        }
        while (x.is(0) < hour) {
            x.hour(Math.min(60, hour - x.is(0)));
        }
    }

    /** All that can be looked at, in some 110 calls and three for each that is in the BOOK. */
    static String all(ClothesHorses x) {
        StringBuilder s = new StringBuilder("about");
        for (int what = 0; what <= 7; what++) {
            s.append(' ').append(x.about(what));
        }
        s.append(" fault ").append(x.fault(0)).append(' ').append(x.fault(1)).append(" is");
        for (int what = 0; what <= 3; what++) {
            s.append(' ').append(x.is(what));
        }
        s.append(" winds");
        for (int cell = 0; cell < 12; cell++) {
            s.append(' ').append(x.windAt(cell));
        }
        for (int horse = 0; horse < x.about(0); horse++) {
            s.append(" horse ").append(horse).append(':');
            for (int what = 0; what <= 3; what++) {
                s.append(' ').append(x.of(horse, what));
            }
            s.append(" stake ").append(x.sure(20, horse)).append(" first ").append(x.first(horse, false));
        }
        for (int piece = 0; piece < x.about(1); piece++) {
            s.append(" piece ").append(piece).append(':');
            for (int what = 0; what <= 3; what++) {
                s.append(' ').append(x.ofPiece(piece, what));
            }
        }
        s.append(" book");
        for (int i = 0; i < x.book(NONE, 0); i++) {
            s.append(' ').append(x.book(i, 0)).append('/').append(x.book(i, 1)).append('/').append(x.book(i, 2));
        }
        return s.append(" upsets ").append(x.ranking(NONE)).append(" whose ").append(x.whose()).toString();
    }
}
