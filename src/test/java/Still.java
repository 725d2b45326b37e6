import java.util.function.Supplier;
import java.util.function.ToIntFunction;

/**
 * That nothing changes by a refused call, or by a question: two objects are made alike, one of them is asked
 * the call, and then every other call is asked of both. A recipe makes the same object each time.
 */
final class Still {
    private final Supplier<ParishCoat> recipe;
    private final String unasked;

    Still(Supplier<ParishCoat> recipe) {
        this.recipe = recipe;
        this.unasked = afterwards(recipe);
    }

    /** The call answers what is due, and all that can be asked afterwards is as if it had not been made. */
    void due(String call, ToIntFunction<ParishCoat> asked, int want) {
        Check.due(call, asked.applyAsInt(recipe.get()), want);
        String after = afterwards(() -> {
            ParishCoat x = recipe.get();
            asked.applyAsInt(x);
            return x;
        });
        Check.due(call + " leaves all as it was", after.equals(unasked) ? 1 : 0, 1);
    }

    private static String afterwards(Supplier<ParishCoat> made) {
        StringBuilder all = new StringBuilder();
        questions(made.get(), all);
        undone(made.get(), all);
        for (int k = 0; k < 2; k++) {
            ParishCoat x = made.get();
            all.append("back ").append(x.back(k)).append(' ');
            state(x, all);
        }
        textDone(made.get(), all);
        votesFilled(made.get(), all);
        daysOn(made.get(), all);
        return all.toString();
    }

    private static void questions(ParishCoat x, StringBuilder all) {
        state(x, all);
        for (int f = 0; f < x.count(0); f++) {
            for (int kind = 0; kind < 5; kind++) {
                all.append(x.as(f, kind)).append(' ');
            }
            foretold(x, f, all);
        }
        for (int set = 0; set < 1 << x.count(0); set++) {
            all.append(x.warm(set)).append(' ');
        }
        for (int what = 0; what < 6; what++) {
            all.append(x.turns(2, what)).append(' ');
        }
        all.append(x.frosts(6, 3, 7, 0)).append(' ');
    }

    private static void foretold(ParishCoat x, int f, StringBuilder all) {
        for (int what = 0; what < 4; what++) {
            all.append(x.fewest(f, what)).append(' ');
        }
        for (int part = 0; part < 2; part++) {
            all.append(x.lot(f, part)).append(' ').append(x.win(f, part)).append(' ');
        }
        all.append(x.carried(f)).append(' ').append(x.swings(f)).append(' ');
        all.append(x.block(f)).append(' ').append(x.wrong(f)).append(' ');
    }

    private static void state(ParishCoat x, StringBuilder all) {
        for (int what = 0; what < 10; what++) {
            all.append(x.count(what)).append(' ');
        }
        for (int f = 0; f < x.count(0); f++) {
            for (int what = 0; what < 7; what++) {
                all.append(x.family(f, what)).append(' ');
            }
        }
        all.append(x.quotas()).append(' ').append(x.fault()).append('\n');
    }

    private static void undone(ParishCoat x, StringBuilder all) {
        for (int i = 0; i < 9; i++) {
            all.append("undo ").append(x.undo()).append(' ');
            state(x, all);
        }
    }

    private static void textDone(ParishCoat x, StringBuilder all) {
        all.append("write ").append(x.write(' ')).append(" coat ").append(x.coat()).append(' ');
        state(x, all);
        all.append("erase ").append(x.erase()).append('\n');
    }

    private static void votesFilled(ParishCoat x, StringBuilder all) {
        for (int i = 0; i < 7; i++) {
            all.append("seen ").append(x.seen(0, 0, 0)).append(' ');
        }
        all.append(x.quotas()).append(" forget ").append(x.forget()).append('\n');
    }

    private static void daysOn(ParishCoat x, StringBuilder all) {
        for (int i = 0; i < 10; i++) {
            all.append("day ").append(x.day(i % (x.count(0) + 1) - 1)).append(' ');
        }
        all.append(" keep ").append(x.keep(1)).append(' ');
        state(x, all);
        undone(x, all);
    }
}
