import java.io.IOException;
import java.nio.file.Files;
import java.nio.file.Path;
import java.util.regex.Matcher;
import java.util.regex.Pattern;

/** The examples of README.md answer what stands behind them there. */
public final class ReadmeTest {
    private static final Pattern STEP = Pattern.compile("^(press|near)\\.(.*?);\\s*// (\\w+)", Pattern.MULTILINE);

    public static void main(String[] args) {
        Due.run(ReadmeTest.class);
    }

    static void theExamplesAreAsToldThere() throws IOException {
        Matcher step = STEP.matcher(Files.readString(Path.of("README.md")));
        SoundPress press = new SoundPress();
        SoundPress near = new SoundPress();
        int steps = 0;
        while (step.find()) {
            SoundPress x = step.group(1).equals("press") ? press : near;
            Due.same(step.group(1) + "." + step.group(2), answer(x, step.group(2)), step.group(3));
            steps++;
        }
        Due.due("steps of both examples", steps, 18);
    }

    /** Only the calls that the examples make: one that is not here is told as unknown. */
    private static String answer(SoundPress x, String call) {
        switch (call) {
            case "say(5, 6, 8, 9, 9)":
                return "" + x.say(5, 6, 8, 9, 9);
            case "say(5000, -4000, 3001, -2500, 70)":
                return "" + x.say(5000, -4000, 3001, -2500, 70);
            case "pass(17, 2)":
                return "" + x.pass(17, 2);
            case "encode(1, false, 0)":
                return "" + x.encode(1, false, 0);
            case "encode(1, false, 100)":
                return "" + x.encode(1, false, 100);
            case "out(0, 0)":
                return "" + x.out(0, 0);
            case "look(9)":
                return "" + x.look(9);
            case "take(0)":
                return "" + x.take(0);
            case "take(1)":
                return "" + x.take(1);
            case "cut(0)":
                return "" + x.cut(0);
            case "decode()":
                return "" + x.decode();
            case "decodeBoth()":
                return "" + x.decodeBoth();
            case "row(4)":
                return "" + x.row(4);
            default:
                return "unknown";
        }
    }
}
