import java.io.IOException;
import java.io.UncheckedIOException;
import java.nio.file.Files;
import java.nio.file.Path;
import java.util.LinkedHashMap;
import java.util.Map;
import java.util.function.Consumer;

/**
 * Sentences of the document that name a boundary, each with answers on both sides of it. A test begins a
 * sentence with its promise and its own words, then tells what is due within and beyond the boundary.
 * A sentence that the document does not have, or that was looked at on one side only, is a failure too:
 * such a test would say more than it does.
 */
final class Edges {
    private static final Path DOCUMENT = Path.of("../shared/DOC.md");
    private static final int MOST_SHOWN = 60;
    private static final int MOST_SHOWN_SIGNS = 300;

    private final String document = oneLine(readDocument());
    private final Map<String, Integer> wrong = new LinkedHashMap<>();
    private String current = "";
    private int asked = 0;
    private int shown = 0;
    private int looksWithin = 0;
    private int looksBeyond = 0;

    /** Tests of sentences, one behind another; what one of them throws fails its sentence and does not end the rest. */
    @SafeVarargs
    final Edges all(Consumer<Edges>... tests) {
        for (Consumer<Edges> test : tests) {
            try {
                test.accept(this);
            } catch (RuntimeException thrown) {
                fail("threw " + shortened(thrown.toString()));
            }
        }
        return this;
    }

    void sentence(int promise, String words) {
        close();
        current = promise + ": " + words;
        if (wrong.putIfAbsent(current, 0) != null) {
            fail("has two tests");
        }
        if (!terms().contains(words) && !section("## Promise " + promise + ": ").contains(words)) {
            fail("does not stand in the document");
        }
    }

    void within(String call, long got, long want) {
        looksWithin++;
        due(call, Long.toString(got), Long.toString(want));
    }

    void within(String call, String got, String want) {
        looksWithin++;
        due(call, got, want);
    }

    void beyond(String call, long got, long want) {
        looksBeyond++;
        due(call, Long.toString(got), Long.toString(want));
    }

    void beyond(String call, String got, String want) {
        looksBeyond++;
        due(call, got, want);
    }

    /** A text without a fault. */
    void reads(int functions, String text) {
        TailTrimmer x = new TailTrimmer();
        Check.lay(x, text);
        within("read() of <" + text + ">", x.read(), functions);
        within("place() of <" + text + ">", x.place(), -1);
    }

    /** A text whose fault is between the two parts of it. */
    void faulty(int fault, String before, String there) {
        TailTrimmer x = new TailTrimmer();
        Check.lay(x, before + there);
        String text = "<" + before + "|" + there + ">";
        beyond("read() of " + text, x.read(), -10 - fault);
        beyond("place() of " + text, x.place(), before.length());
    }

    /** The sentence that is being looked at, "" if none is. */
    String open() {
        return current;
    }

    /** By sentence: how many answers were wrong. */
    Map<String, Integer> close() {
        if (!current.isEmpty() && (looksWithin == 0 || looksBeyond == 0)) {
            fail("was looked at on one side only");
        }
        current = "";
        looksWithin = 0;
        looksBeyond = 0;
        return wrong;
    }

    void finish() {
        int bad = 0;
        for (int count : close().values()) {
            bad += count;
        }
        System.out.println(wrong.size() + " sentences, " + asked + " answers looked at, " + bad + " wrong");
        if (bad != 0 || asked == 0) {
            System.exit(1);
        }
    }

    private void due(String call, String got, String want) {
        asked++;
        if (!got.equals(want)) {
            fail(shortened(call) + " answered " + shortened(got) + ", due is " + shortened(want));
        }
    }

    private void fail(String message) {
        wrong.merge(current, 1, Integer::sum);
        shown++;
        if (shown <= MOST_SHOWN) {
            System.out.println("Promise " + current + "\n    " + message);
        }
    }

    private static String shortened(String s) {
        return s.length() <= MOST_SHOWN_SIGNS ? s : s.substring(0, MOST_SHOWN_SIGNS) + " .. (" + s.length() + " signs)";
    }

    private String terms() {
        return section("## What it is") + " " + section("## Terms");
    }

    private String section(String head) {
        int from = document.indexOf(head);
        if (from < 0) {
            return "";
        }
        int end = document.indexOf(" ## ", from);
        return document.substring(from, end < 0 ? document.length() : end);
    }

    private static String oneLine(String text) {
        return text.replaceAll("\\s+", " ");
    }

    private static String readDocument() {
        try {
            return Files.readString(DOCUMENT);
        } catch (IOException e) {
            throw new UncheckedIOException(e);
        }
    }
}
