import java.util.concurrent.TimeUnit;

/** Runs a test in a Java machine of its own, and ends it if it does not end by itself: seconds, class path, class. */
public final class WithLimit {
    public static void main(String[] args) throws Exception {
        String java = System.getProperty("java.home") + "/bin/java";
        Process test = new ProcessBuilder(java, "-cp", args[1], args[2]).inheritIO().start();
        if (!test.waitFor(Long.parseLong(args[0]), TimeUnit.SECONDS)) {
            test.destroyForcibly().waitFor();
            System.out.println(args[2] + " did not end within " + args[0] + " seconds");
            System.exit(1);
        }
        System.exit(test.exitValue());
    }
}
