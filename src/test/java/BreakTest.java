import java.io.IOException;
import java.lang.reflect.Method;
import java.nio.file.Files;
import java.nio.file.Path;
import java.util.ArrayList;
import java.util.List;
import java.util.Map;
import java.util.concurrent.Callable;
import java.util.concurrent.ExecutionException;
import java.util.concurrent.ExecutorService;
import java.util.concurrent.Executors;
import java.util.concurrent.Future;
import java.util.concurrent.TimeUnit;
import java.util.concurrent.TimeoutException;
import java.util.regex.Matcher;
import java.util.regex.Pattern;

/** Breaks the program, one sentence of the document after another: the sentence's own test must fail each time. */
public final class BreakTest {
    private static final int MOST_SECONDS = 120;

    /** What became of one break; empty, if the sentence's test failed, as it shall. */
    private static final class Trial implements Callable<String> {
        private final String source;
        private final int edge;
        private final String old;
        private final String broken;

        Trial(String source, int edge, String old, String broken) {
            this.source = source;
            this.edge = edge;
            this.old = old;
            this.broken = broken;
        }

        @Override
        public String call() throws ReflectiveOperationException {
            Matcher place = place();
            if (!place.find()) {
                return "does not stand in the program";
            }
            String text = source.substring(0, place.start()) + broken + source.substring(place.end());
            if (place.find()) {
                return "stands in the program more than once";
            }
            Map<String, byte[]> classes = BrokenProgram.compiled("EndingTown", text);
            if (classes.isEmpty()) {
                return "does not compile when broken";
            }
            Class<?> edges = new BrokenProgram(classes).loadClass("Edges");
            Method ask = edges.getDeclaredMethod("wrongUnheard", int.class);
            // it is a class of another loader, and so of another package
            ask.setAccessible(true);
            return ask.invoke(null, edge).equals(0) ? "goes unnoticed" : "";
        }

        /** Where the old text stands, however its lines are broken there. */
        private Matcher place() {
            StringBuilder pattern = new StringBuilder();
            for (String part : old.split(" ")) {
                pattern.append(pattern.length() > 0 ? "\\s+" : "").append(Pattern.quote(part));
            }
            return Pattern.compile(pattern.toString()).matcher(source);
        }
    }

    public static void main(String[] args) throws IOException, InterruptedException, ExecutionException {
        String source = Files.readString(Path.of(args[0]));
        List<Edges.Edge> edges = Edges.every().all;
        ExecutorService threads = Executors.newFixedThreadPool(Math.max(1, Runtime.getRuntime().availableProcessors() / 2),
                task -> {
                    Thread thread = new Thread(task);
                    thread.setDaemon(true);
                    return thread;
                });
        List<Future<String>> trials = new ArrayList<>();
        List<String> names = new ArrayList<>();
        for (int i = 0; i < edges.size(); i++) {
            Edges.Edge edge = edges.get(i);
            Check.is(edge.name() + " is broken in some way", edge.breaks.length > 1, true);
            for (int k = 0; k + 1 < edge.breaks.length; k += 2) {
                names.add(edge.name() + " broken by \"" + edge.breaks[k + 1] + "\" for \"" + edge.breaks[k] + "\"");
                trials.add(threads.submit(new Trial(source, i, edge.breaks[k], edge.breaks[k + 1])));
            }
        }
        for (int i = 0; i < trials.size(); i++) {
            String outcome = outcome(trials.get(i));
            Check.is(names.get(i) + " " + outcome, outcome.isEmpty(), true);
        }
        Check.end();
        System.exit(0);
    }

    /** A program that doesn't end is noticed, too. */
    private static String outcome(Future<String> trial) throws InterruptedException, ExecutionException {
        try {
            return trial.get(MOST_SECONDS, TimeUnit.SECONDS);
        } catch (TimeoutException e) {
            return "";
        }
    }
}
