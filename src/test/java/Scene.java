import java.util.ArrayList;
import java.util.List;

/**
 * States at the bounds, each made by a row of steps on a new object, or on a new
 * model: "=" does works, "+" types, and the others are calls by their names.
 */
enum Scene {
    NEW(),
    /** A few of each: two clues, a stop with the reason 2, a snapshot, a buffer. */
    FEW("=h0:1", "keep", "=l1:8;x5", "+n1"),
    /** 20 clues, five saved states behind one that fell out, a snapshot, a stop with the reason 1, a buffer. */
    FULL("=h0:1;x3", "keep", "=n1;n2;n3;n4;n5;n6;n7;n8;n9", "=n10;n11;n12;n13;n14;n15;n16;n17;n18;n19",
            "exchange", "=l0:1;n2", "dropAll", "undo", "restore", "undo", "exchange", "+h0:"),
    /** A buffer with 60 signs, a snapshot of an empty object. */
    PACKED("keep", "=a0:9;v1:4;!0", "+~~~~~~~~~~~~~~~~~~~~!!!!!!!!!!!!!!!!!!!!nnnnnnnnnnnnnnnnnnn0"),
    /** No deal is left, and the rules break down. */
    BROKEN("=h2:8", "keep", "=i0;n0"),
    /** No deal is left, but the rules don't break down. */
    UNSEEN("=h1:6;s1:8;s1:10");

    private final String[] steps;

    Scene(String... steps) {
        this.steps = steps;
    }

    AlibiDeals make(String... more) {
        AlibiDeals x = new AlibiDeals();
        for (String step : steps) {
            take(x, step);
        }
        for (String step : more) {
            take(x, step);
        }
        return x;
    }

    private static void take(AlibiDeals x, String step) {
        switch (step) {
            case "keep" -> x.keep();
            case "restore" -> x.restore();
            case "undo" -> x.undo();
            case "dropAll" -> x.dropAll();
            case "exchange" -> x.exchange(2, 4);
            case "clear" -> x.clearBuffer();
            default -> {
                Checks.type(x, step.substring(1));
                if (step.charAt(0) == '=') {
                    x.work();
                }
            }
        }
    }

    Model model() {
        Model m = new Model();
        for (String step : steps) {
            switch (step) {
                case "keep" -> m.keep();
                case "restore" -> m.restore();
                case "undo" -> m.undo();
                case "dropAll" -> m.dropAll();
                case "exchange" -> m.exchange(2, 4);
                default -> {
                    step.substring(1).chars().forEach(m::append);
                    if (step.charAt(0) == '=') {
                        m.work();
                    }
                }
            }
        }
        return m;
    }

    /** All that an object holds: its digest, that of each saved state, and that of the snapshot. It is used up by that. */
    static List<String> whole(AlibiDeals x) {
        List<String> told = new ArrayList<>();
        told.add("now " + x.digest());
        for (int i = 0; i < 7; i++) {
            told.add("undo " + answer(x::undo) + " " + x.digest());
        }
        told.add("restore " + answer(x::restore) + " " + x.digest());
        return told;
    }

    static Object answer(java.util.function.Supplier<Object> call) {
        try {
            return call.get();
        } catch (RuntimeException e) {
            return "throws." + e.getClass().getSimpleName();
        }
    }
}
